import java.lang.reflect.Constructor;
import java.lang.reflect.Field;
import java.lang.reflect.Method;
import java.lang.reflect.Modifier;
import java.util.Set;
import java.util.TreeSet;

/** The class shows the public face of the document, and nothing else of it can be seen. */
public final class FaceTest {
    private static final Set<String> FACE = Set.of(
        "public QuorumDesk()",
        "public int QuorumDesk.atLeast(int,int)",
        "public int QuorumDesk.join(boolean)",
        "public int QuorumDesk.dual()",
        "public int QuorumDesk.given(int)",
        "public int QuorumDesk.copy(int)",
        "public int QuorumDesk.drop()",
        "public int QuorumDesk.enough(int,int)",
        "public int QuorumDesk.leastSets(int)",
        "public int QuorumDesk.leastSet(int,int)",
        "public int QuorumDesk.meet(int,int)",
        "public int QuorumDesk.withstand(int)");

    private FaceTest() {
    }

    public static void main(String[] args) {
        Class<?> desk = QuorumDesk.class;
        if (desk.getModifiers() != (Modifier.PUBLIC | Modifier.FINAL)) {
            Due.fault("the class is " + Modifier.toString(desk.getModifiers()) + ", due is public final");
        }
        if (desk.getSuperclass() != Object.class || desk.getInterfaces().length != 0) {
            Due.fault("the class extends or implements another");
        }
        Due.due("number of nested classes", desk.getDeclaredClasses().length, 0);
        members(desk);
        for (Field field : desk.getDeclaredFields()) {
            look(field);
        }
        Due.end();
    }

    private static void members(Class<?> desk) {
        Set<String> visible = new TreeSet<>();
        Set<String> publicNames = new TreeSet<>();
        for (Constructor<?> made : desk.getDeclaredConstructors()) {
            visible.add(made.toString());
        }
        for (Method method : desk.getDeclaredMethods()) {
            if (!Modifier.isPrivate(method.getModifiers())) {
                visible.add(method.toString());
                publicNames.add(method.getName());
            }
        }
        if (!visible.equals(FACE)) {
            Due.fault("what can be seen is " + visible + ", due is " + new TreeSet<>(FACE));
        }
        for (Method method : desk.getDeclaredMethods()) {
            if (Modifier.isPrivate(method.getModifiers()) && publicNames.contains(method.getName())) {
                Due.fault(method + " bears the name of a public method");
            }
        }
    }

    private static void look(Field field) {
        int kind = field.getModifiers();
        if (!Modifier.isPrivate(kind)) {
            Due.fault(field + " is not private");
        }
        boolean number = field.getType() == int.class || field.getType() == long.class;
        if (Modifier.isStatic(kind) && !(Modifier.isFinal(kind) && number)) {
            Due.fault(field + " is static and not a constant of int or long");
        }
    }
}
