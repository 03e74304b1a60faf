import com.sun.source.tree.*;
import com.sun.source.util.JavacTask;
import com.sun.source.util.SourcePositions;
import com.sun.source.util.TreePath;
import com.sun.source.util.TreePathScanner;
import com.sun.source.util.Trees;
import java.io.File;
import java.io.IOException;
import java.util.HashSet;
import java.util.Map;
import java.util.Set;
import java.util.TreeMap;
import java.util.TreeSet;
import javax.lang.model.element.Modifier;
import javax.tools.JavaCompiler;
import javax.tools.StandardJavaFileManager;
import javax.tools.ToolProvider;

/**
 * Reads the program's source and holds it against the rules of LANGUAGE.md that can be seen in
 * it. Here and there it asks for more than the rule, because that is easier to see: every loop is
 * a for with a counter, every array is made in a field's initialiser, and no name has a dot.
 * Rules 7 and 11 (no call throws, the same calls give the same answers) are left to the tests
 * that make calls.
 */
public final class LanguageTest extends TreePathScanner<Void, Void> {
    private static final String SOURCE = "src/main/java/BlockCoder.java";
    private static final Set<String> TYPES = Set.of("int", "long", "short", "byte", "char", "boolean");
    private static final int MOST_LINES = 60;
    private static final int MOST_CALLS_DEEP = 6;
    private static final int MOST_FIELDS = 40;
    private static final Set<Tree.Kind> FORBIDDEN = Set.of(
            Tree.Kind.THROW, Tree.Kind.TRY, Tree.Kind.CATCH, Tree.Kind.SYNCHRONIZED, Tree.Kind.ASSERT,
            Tree.Kind.INSTANCE_OF, Tree.Kind.LAMBDA_EXPRESSION, Tree.Kind.MEMBER_REFERENCE,
            Tree.Kind.NEW_CLASS, Tree.Kind.NULL_LITERAL, Tree.Kind.STRING_LITERAL,
            Tree.Kind.FLOAT_LITERAL, Tree.Kind.DOUBLE_LITERAL, Tree.Kind.ENHANCED_FOR_LOOP,
            Tree.Kind.WHILE_LOOP, Tree.Kind.DO_WHILE_LOOP, Tree.Kind.MEMBER_SELECT, Tree.Kind.IMPORT,
            Tree.Kind.PACKAGE, Tree.Kind.INTERFACE, Tree.Kind.ENUM, Tree.Kind.RECORD);

    private final Due due = new Due();
    private final CompilationUnitTree unit;
    private final SourcePositions positions;
    private final Map<String, Set<String>> calls = new TreeMap<>();
    private final Set<String> methodNames = new HashSet<>();
    private final Set<String> arrayFields = new HashSet<>();
    private final Set<String> constants = new HashSet<>();
    private int fields = 0;
    private String method = "";

    private LanguageTest(CompilationUnitTree unit, SourcePositions positions) {
        this.unit = unit;
        this.positions = positions;
    }

    public static void main(String[] args) throws IOException {
        JavaCompiler compiler = ToolProvider.getSystemJavaCompiler();
        try (StandardJavaFileManager files = compiler.getStandardFileManager(null, null, null)) {
            JavacTask task = (JavacTask) compiler.getTask(null, files, null, null, null,
                    files.getJavaFileObjects(new File(SOURCE)));
            CompilationUnitTree unit = task.parse().iterator().next();
            new LanguageTest(unit, Trees.instance(task).getSourcePositions()).check();
        }
    }

    private void check() {
        due.in("language");
        due.that("rule 1: one class", unit.getTypeDecls().size() == 1);
        ClassTree type = (ClassTree) unit.getTypeDecls().get(0);
        for (Tree member : type.getMembers()) {
            gather(member);
        }
        due.that("rule 10: " + fields + " fields", fields <= MOST_FIELDS);
        scan(unit, null);
        for (String name : calls.keySet()) {
            int deep = depth(name, new TreeSet<>());
            due.that("rules 8 and 10: the calls of " + name + " go " + deep + " deep", deep <= MOST_CALLS_DEEP);
        }
        due.finish();
    }

    private void gather(Tree member) {
        if (member instanceof MethodTree m) {
            due.that("rule 1: one method with the name " + m.getName(), methodNames.add(m.getName().toString()));
        } else if (member instanceof VariableTree field) {
            gatherField(field);
        } else {
            due.that("rules 1 and 5: only methods and fields, not " + member, false);
        }
    }

    private void gatherField(VariableTree field) {
        Set<Modifier> flags = field.getModifiers().getFlags();
        if (flags.contains(Modifier.STATIC)) {
            due.that("rule 5: " + field, flags.contains(Modifier.FINAL) && field.getInitializer() != null
                    && Set.of("int", "long").contains(field.getType().toString()));
            constants.add(field.getName().toString());
            return;
        }
        fields++;
        if (field.getType().getKind() == Tree.Kind.ARRAY_TYPE) {
            due.that("rule 4: " + field, flags.contains(Modifier.FINAL)
                    && field.getInitializer() instanceof NewArrayTree);
            arrayFields.add(field.getName().toString());
        }
    }

    @Override
    public Void scan(Tree tree, Void none) {
        if (tree != null) {
            due.that("no " + tree.getKind() + ": " + tree, !FORBIDDEN.contains(tree.getKind()));
        }
        return super.scan(tree, none);
    }

    @Override
    public Void visitMethod(MethodTree tree, Void none) {
        method = tree.getName().toString();
        calls.put(method, new TreeSet<>());
        due.that("rule 10: parameters of " + method, tree.getParameters().size() <= 7);
        due.that("rule 10: lines of " + method, lines(tree) <= MOST_LINES);
        if (tree.getReturnType() != null) {
            String type = tree.getReturnType().toString();
            due.that("rules 2 and 4: " + method + " answers " + type, type.equals("void") || TYPES.contains(type));
        }
        super.visitMethod(tree, none);
        method = "";
        return null;
    }

    private long lines(Tree tree) {
        LineMap map = unit.getLineMap();
        return map.getLineNumber(positions.getEndPosition(unit, tree))
                - map.getLineNumber(positions.getStartPosition(unit, tree)) + 1;
    }

    @Override
    public Void visitVariable(VariableTree tree, Void none) {
        String type = tree.getType().toString();
        due.that("rule 2: " + tree, TYPES.contains(type.endsWith("[]") ? type.substring(0, type.length() - 2) : type));
        // Then no local name can ever change to another array, in a loop or outside.
        boolean local = getCurrentPath().getParentPath().getLeaf().getKind() != Tree.Kind.CLASS
                && getCurrentPath().getParentPath().getLeaf().getKind() != Tree.Kind.METHOD;
        due.that("rule 4: no array in a local variable, " + tree, !(local && type.endsWith("[]")));
        return super.visitVariable(tree, none);
    }

    @Override
    public Void visitTypeCast(TypeCastTree tree, Void none) {
        due.that("rule 6: " + tree, TYPES.contains(tree.getType().toString()));
        return super.visitTypeCast(tree, none);
    }

    @Override
    public Void visitNewArray(NewArrayTree tree, Void none) {
        due.that("rule 4: " + tree + " outside of a field's initialiser", method.isEmpty());
        due.that("rule 4: " + tree + " with one length", tree.getDimensions().size() == 1
                && tree.getInitializers() == null
                && constants.contains(tree.getDimensions().get(0).toString()));
        return super.visitNewArray(tree, none);
    }

    @Override
    public Void visitAssignment(AssignmentTree tree, Void none) {
        due.that("rule 4: " + tree, !arrayFields.contains(tree.getVariable().toString()));
        return super.visitAssignment(tree, none);
    }

    @Override
    public Void visitIdentifier(IdentifierTree tree, Void none) {
        boolean array = arrayFields.contains(tree.getName().toString());
        Tree parent = getCurrentPath().getParentPath().getLeaf();
        due.that("rule 4: the array in " + parent + " is indexed or handed on", !array
                || parent instanceof ArrayAccessTree || parent instanceof MethodInvocationTree);
        return super.visitIdentifier(tree, none);
    }

    @Override
    public Void visitMethodInvocation(MethodInvocationTree tree, Void none) {
        String name = tree.getMethodSelect().toString();
        boolean constructorOfObject = method.equals("<init>") && name.equals("super");
        due.that("rule 3: " + tree, constructorOfObject || methodNames.contains(name));
        for (TreePath path = getCurrentPath().getParentPath(); path != null; path = path.getParentPath()) {
            due.that("rule 10: " + tree + " inside another call", !(path.getLeaf() instanceof MethodInvocationTree));
        }
        if (methodNames.contains(name) && !method.isEmpty()) {
            calls.get(method).add(name);
        }
        return super.visitMethodInvocation(tree, none);
    }

    @Override
    public Void visitForLoop(ForLoopTree tree, Void none) {
        boolean counted = tree.getInitializer().size() == 1 && tree.getUpdate().size() == 1
                && tree.getInitializer().get(0) instanceof VariableTree;
        due.that("rule 8: one counter in " + tree, counted);
        if (counted) {
            String counter = ((VariableTree) tree.getInitializer().get(0)).getName().toString();
            String update = tree.getUpdate().get(0).getExpression().toString();
            String end = tree.getCondition().toString().split(" && ")[0];
            boolean up = update.equals(counter + "++") && end.matches(counter + " < \\w+");
            boolean down = update.equals(counter + "--") && end.matches(counter + " >=? 0");
            due.that("rule 8: a bound for the counter in " + tree, up || down);
            due.that("rule 8: the body leaves the counter alone in " + tree, !changes(tree.getStatement(), counter));
            String bound = up ? end.substring((counter + " < ").length()) : "0";
            due.that("rule 8: the body leaves the bound alone in " + tree, !changes(tree.getStatement(), bound));
        }
        return super.visitForLoop(tree, none);
    }

    /** Whether these lines change the variable; what a method that they call does is not seen. */
    private static boolean changes(Tree tree, String name) {
        String text = tree.toString();
        return text.matches("(?s).*\\b" + name + "(\\+\\+|--| [-+*/%&|^]?=[^=]| <<= | >>>?= ).*")
                || text.matches("(?s).*(\\+\\+|--)" + name + "\\b.*");
    }

    /** How deep the calls go, the method itself included; far too deep if it comes to itself. */
    private int depth(String name, Set<String> above) {
        if (above.contains(name)) {
            return 1000;
        }
        Set<String> way = new TreeSet<>(above);
        way.add(name);
        int deepest = 0;
        for (String called : calls.getOrDefault(name, Set.of())) {
            deepest = Math.max(deepest, depth(called, way));
        }
        return deepest + 1;
    }
}
