import com.sun.source.tree.ArrayTypeTree;
import com.sun.source.tree.AssignmentTree;
import com.sun.source.tree.BinaryTree;
import com.sun.source.tree.ClassTree;
import com.sun.source.tree.CompilationUnitTree;
import com.sun.source.tree.CompoundAssignmentTree;
import com.sun.source.tree.ExpressionTree;
import com.sun.source.tree.ForLoopTree;
import com.sun.source.tree.MethodInvocationTree;
import com.sun.source.tree.MethodTree;
import com.sun.source.tree.NewArrayTree;
import com.sun.source.tree.PrimitiveTypeTree;
import com.sun.source.tree.Tree;
import com.sun.source.tree.Tree.Kind;
import com.sun.source.tree.TypeCastTree;
import com.sun.source.tree.UnaryTree;
import com.sun.source.tree.VariableTree;
import com.sun.source.util.JavacTask;
import com.sun.source.util.TreeScanner;
import com.sun.source.util.Trees;
import java.io.IOException;
import java.nio.file.Path;
import java.util.EnumSet;
import java.util.HashMap;
import java.util.HashSet;
import java.util.Map;
import java.util.Set;
import java.util.regex.Matcher;
import java.util.regex.Pattern;
import javax.lang.model.element.Modifier;
import javax.lang.model.type.TypeKind;
import javax.tools.JavaCompiler;
import javax.tools.StandardJavaFileManager;
import javax.tools.ToolProvider;

/**
 * The rules of LANGUAGE.md that the source shows; FaceTest has those on what can be seen of the
 * class. Where a rule leaves more than the class needs, only what it needs is let through, because
 * that can be told from the source with little reckoning: arrays are made by final fields alone,
 * and every loop counts up to a constant. That no call throws (rule 7) is left to the tests that
 * call with wrong arguments.
 */
public final class LanguageTest extends TreeScanner<Void, Void> {
    private static final Path SOURCE = Path.of("src/main/java/QuorumDesk.java");
    private static final int MOST_PARAMETERS = 7;
    private static final int MOST_LINES = 60;
    private static final int MOST_DEEP = 6;
    private static final int MOST_FIELDS = 40;
    private static final Pattern LOOP = Pattern.compile("for \\(int (\\w+) = 0; \\1 < (\\w+)( / 2)?; \\1\\+\\+\\) .*");

    /** Rules 1, 2, 3, 6 and 8. */
    private static final Set<Kind> RULED_OUT = EnumSet.of(
        Kind.PACKAGE, Kind.IMPORT, Kind.INTERFACE, Kind.ENUM, Kind.RECORD, Kind.ANNOTATION_TYPE, Kind.ANNOTATION,
        Kind.FLOAT_LITERAL, Kind.DOUBLE_LITERAL, Kind.STRING_LITERAL, Kind.NULL_LITERAL,
        Kind.NEW_CLASS, Kind.MEMBER_SELECT,
        Kind.THROW, Kind.TRY, Kind.SYNCHRONIZED, Kind.ASSERT, Kind.INSTANCE_OF,
        Kind.LAMBDA_EXPRESSION, Kind.MEMBER_REFERENCE,
        Kind.WHILE_LOOP, Kind.DO_WHILE_LOOP, Kind.ENHANCED_FOR_LOOP);

    private final CompilationUnitTree unit;
    private final Trees trees;
    private final Set<String> constants = new HashSet<>();
    private final Set<String> arrays = new HashSet<>();
    private final Set<Tree> madeByFields = new HashSet<>();
    private final Set<String> counters = new HashSet<>();
    private final Map<String, Set<String>> callsOf = new HashMap<>();
    private String method = "";
    private boolean insideArguments;

    private LanguageTest(CompilationUnitTree unit, Trees trees) {
        this.unit = unit;
        this.trees = trees;
    }

    public static void main(String[] args) throws IOException {
        JavaCompiler compiler = ToolProvider.getSystemJavaCompiler();
        StandardJavaFileManager files = compiler.getStandardFileManager(null, null, null);
        JavacTask task = (JavacTask) compiler.getTask(null, files, null, null, null, files.getJavaFileObjects(SOURCE));
        for (CompilationUnitTree unit : task.parse()) {
            new LanguageTest(unit, Trees.instance(task)).look();
        }
        Due.end();
    }

    private void look() {
        Due.due("number of types in the file", unit.getTypeDecls().size(), 1);
        int fields = 0;
        for (Tree member : ((ClassTree) unit.getTypeDecls().get(0)).getMembers()) {
            if (member.getKind() == Kind.METHOD) {
                callsOf.put(((MethodTree) member).getName().toString(), new HashSet<>());
            } else if (member.getKind() == Kind.VARIABLE) {
                fields += note((VariableTree) member);
            } else {
                fault(member, "is neither a field nor a method");
            }
        }
        if (fields > MOST_FIELDS) {
            Due.fault("there are " + fields + " fields");
        }
        scan(unit, null);
        for (String name : callsOf.keySet()) {
            deep(name, 1);
        }
    }

    /** How many fields it is: a constant does not count. */
    private int note(VariableTree field) {
        Set<Modifier> kind = field.getModifiers().getFlags();
        if (kind.contains(Modifier.STATIC)) {
            constants.add(field.getName().toString());
            return 0;
        }
        if (field.getType().getKind() == Kind.ARRAY_TYPE && kind.contains(Modifier.FINAL)) {
            madeByFields.add(field.getInitializer());
        }
        return 1;
    }

    private static String firstLine(Tree tree) {
        return tree.toString().strip().lines().findFirst().orElse("");
    }

    private void fault(Tree tree, String text) {
        long place = trees.getSourcePositions().getStartPosition(unit, tree);
        Due.fault("line " + unit.getLineMap().getLineNumber(place) + ": " + firstLine(tree) + " " + text);
    }

    @Override
    public Void scan(Tree tree, Void none) {
        if (tree != null && RULED_OUT.contains(tree.getKind())) {
            fault(tree, "is ruled out (" + tree.getKind() + ")");
        }
        return super.scan(tree, none);
    }

    @Override
    public Void visitClass(ClassTree made, Void none) {
        if (made != unit.getTypeDecls().get(0)) {
            fault(made, "is a class inside the class");
        }
        return super.visitClass(made, none);
    }

    // Rule 2: the types.

    private static boolean isNumber(Tree type) {
        if (type == null || type.getKind() != Kind.PRIMITIVE_TYPE) {
            return false;
        }
        TypeKind kind = ((PrimitiveTypeTree) type).getPrimitiveTypeKind();
        return kind != TypeKind.FLOAT && kind != TypeKind.DOUBLE && kind != TypeKind.VOID;
    }

    @Override
    public Void visitVariable(VariableTree variable, Void none) {
        Tree type = variable.getType();
        if (type instanceof ArrayTypeTree && isNumber(((ArrayTypeTree) type).getType())) {
            arrays.add(variable.getName().toString());
        } else if (!isNumber(type)) {
            fault(variable, "is no number, boolean or array of one dimension of these");
        }
        return super.visitVariable(variable, none);
    }

    @Override
    public Void visitTypeCast(TypeCastTree cast, Void none) {
        if (!isNumber(cast.getType())) {
            fault(cast, "is no cast between numbers");
        }
        return super.visitTypeCast(cast, none);
    }

    // Rule 4: the arrays.

    @Override
    public Void visitNewArray(NewArrayTree made, Void none) {
        boolean plain = made.getInitializers() == null && made.getDimensions().size() == 1;
        if (!plain || !madeByFields.contains(made) || !isFixed(made.getDimensions().get(0).toString())) {
            fault(made, "is not made by a final field with a fixed length");
        }
        return super.visitNewArray(made, none);
    }

    private boolean isFixed(String value) {
        return value.matches("[1-9][0-9]*") || constants.contains(value);
    }

    private boolean isArray(ExpressionTree value) {
        return arrays.contains(value.toString());
    }

    @Override
    public Void visitBinary(BinaryTree binary, Void none) {
        Kind kind = binary.getKind();
        boolean compares = kind == Kind.EQUAL_TO || kind == Kind.NOT_EQUAL_TO;
        if (compares && (isArray(binary.getLeftOperand()) || isArray(binary.getRightOperand()))) {
            fault(binary, "compares an array");
        }
        boolean divides = kind == Kind.DIVIDE || kind == Kind.REMAINDER;
        if (divides && !isFixed(binary.getRightOperand().toString())) {
            fault(binary, "divides by what may be 0");
        }
        return super.visitBinary(binary, none);
    }

    // Rule 8: the loops. Nothing in a loop writes to its counter.

    @Override
    public Void visitForLoop(ForLoopTree loop, Void none) {
        Matcher head = LOOP.matcher(firstLine(loop));
        if (!head.matches() || !isFixed(head.group(2))) {
            fault(loop, "does not count up to a constant");
            return super.visitForLoop(loop, none);
        }
        counters.add(head.group(1));
        scan(loop.getStatement(), none);
        counters.remove(head.group(1));
        return null;
    }

    private void written(ExpressionTree variable) {
        if (counters.contains(variable.toString())) {
            fault(variable, "is a loop's counter, and is written to inside the loop");
        }
    }

    @Override
    public Void visitAssignment(AssignmentTree assignment, Void none) {
        written(assignment.getVariable());
        return super.visitAssignment(assignment, none);
    }

    @Override
    public Void visitCompoundAssignment(CompoundAssignmentTree assignment, Void none) {
        written(assignment.getVariable());
        return super.visitCompoundAssignment(assignment, none);
    }

    @Override
    public Void visitUnary(UnaryTree unary, Void none) {
        if (unary.toString().contains("++") || unary.toString().contains("--")) {
            written(unary.getExpression());
        }
        return super.visitUnary(unary, none);
    }

    // Rules 3, 8 and 10: methods and calls.

    private long lineOf(long place) {
        return unit.getLineMap().getLineNumber(place);
    }

    @Override
    public Void visitMethod(MethodTree made, Void none) {
        method = made.getName().toString();
        if (made.getParameters().size() > MOST_PARAMETERS) {
            fault(made, "takes too many parameters");
        }
        if (made.getReturnType() instanceof ArrayTypeTree) {
            fault(made, "answers an array");
        }
        long first = lineOf(trees.getSourcePositions().getStartPosition(unit, made));
        long last = lineOf(trees.getSourcePositions().getEndPosition(unit, made));
        if (last - first >= MOST_LINES) {
            fault(made, "is too long");
        }
        return super.visitMethod(made, none);
    }

    @Override
    public Void visitMethodInvocation(MethodInvocationTree call, Void none) {
        String called = call.getMethodSelect().toString();
        if (insideArguments) {
            fault(call, "stands inside the arguments of another call");
        }
        if (method.isEmpty() || !callsOf.containsKey(called)) {
            fault(call, "is no call from a method of the class to another");
        } else {
            callsOf.get(method).add(called);
        }
        boolean outer = insideArguments;
        insideArguments = true;
        super.visitMethodInvocation(call, none);
        insideArguments = outer;
        return null;
    }

    /** Recursion goes deeper than any bound, so that it is found here too. */
    private void deep(String name, int depth) {
        if (depth > MOST_DEEP) {
            Due.fault("calls go more than " + MOST_DEEP + " deep, down to " + name);
            return;
        }
        for (String called : callsOf.get(name)) {
            deep(called, depth + 1);
        }
    }
}
