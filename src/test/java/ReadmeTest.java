import java.io.IOException;
import java.lang.reflect.Method;
import java.lang.reflect.Modifier;
import java.nio.file.DirectoryStream;
import java.nio.file.Files;
import java.nio.file.Path;
import java.util.ArrayList;
import java.util.List;
import java.util.Set;
import java.util.TreeSet;
import java.util.regex.Matcher;
import java.util.regex.Pattern;

/** What README.md says of the class and of its tests is so. It is read from the project's folder. */
public final class ReadmeTest {
    private static final String MADE = "QuorumDesk desk = new QuorumDesk();";
    private static final Pattern CALL = Pattern.compile("desk\\.(\\w+)\\(([^()]*)\\); *// (-?\\d+)(: .*)?");

    private ReadmeTest() {
    }

    public static void main(String[] args) throws IOException, ReflectiveOperationException {
        List<String> readme = Files.readAllLines(Path.of("README.md"));
        exampleAnswersAsNamed(block(readme, "java"));
        everyCallIsTold(String.join("\n", readme));
        testsRunAsWritten(block(readme, "sh"));
        everyTestIsListed(readme);
        Due.end();
    }

    /** The lines between the first fence of that language and the one that closes it. */
    private static List<String> block(List<String> lines, String language) {
        int start = lines.indexOf("```" + language) + 1;
        List<String> rest = lines.subList(start, lines.size());
        int length = rest.indexOf("```");
        if (start == 0 || length < 1) {
            Due.fault("README.md has no block of " + language);
            return List.of();
        }
        return rest.subList(0, length);
    }

    private static void exampleAnswersAsNamed(List<String> example) throws ReflectiveOperationException {
        if (example.isEmpty() || !example.get(0).equals(MADE)) {
            Due.fault("the example does not begin with: " + MADE);
            return;
        }
        QuorumDesk desk = new QuorumDesk();
        for (String line : example.subList(1, example.size())) {
            Matcher call = CALL.matcher(line);
            if (call.matches()) {
                int due = Integer.parseInt(call.group(3));
                Due.due("the example's " + line, answer(desk, call.group(1), call.group(2)), due);
            } else {
                Due.fault("the example's line is not a call with its answer: " + line);
            }
        }
    }

    private static int answer(QuorumDesk desk, String name, String arguments) throws ReflectiveOperationException {
        List<Class<?>> types = new ArrayList<>();
        List<Object> values = new ArrayList<>();
        for (String argument : arguments.isEmpty() ? new String[0] : arguments.split(", ")) {
            boolean truth = argument.equals("true") || argument.equals("false");
            types.add(truth ? boolean.class : int.class);
            values.add(truth ? (Object) Boolean.valueOf(argument) : Integer.valueOf(argument));
        }
        Method method = QuorumDesk.class.getMethod(name, types.toArray(new Class<?>[0]));
        return (int) method.invoke(desk, values.toArray());
    }

    private static void everyCallIsTold(String readme) {
        for (Method method : QuorumDesk.class.getDeclaredMethods()) {
            boolean isPublic = Modifier.isPublic(method.getModifiers());
            if (isPublic && !readme.contains("`" + method.getName() + "(")) {
                Due.fault("README.md does not tell of " + method.getName());
            }
        }
    }

    /** It can't be run from here, being what runs this test. */
    private static void testsRunAsWritten(List<String> commands) {
        if (!commands.equals(List.of(".ci/run"))) {
            Due.fault("README.md runs the tests by " + commands + ", due is .ci/run");
        }
        if (!Files.isExecutable(Path.of(".ci/run"))) {
            Due.fault(".ci/run can't be run as README.md writes it");
        }
    }

    private static void everyTestIsListed(List<String> readme) throws IOException {
        Set<String> listed = new TreeSet<>();
        for (String line : readme) {
            if (line.matches("- `\\w+Test`: .*")) {
                listed.add(line.substring(3, line.indexOf('`', 3)));
            }
        }
        Set<String> there = new TreeSet<>();
        try (DirectoryStream<Path> files = Files.newDirectoryStream(Path.of("src/test/java"), "*Test.java")) {
            for (Path file : files) {
                there.add(file.getFileName().toString().replace(".java", ""));
            }
        }
        if (!listed.equals(there)) {
            Due.fault("README.md lists the tests " + listed + ", there are " + there);
        }
    }
}
