import com.sun.source.tree.ClassTree;
import com.sun.source.tree.CompilationUnitTree;
import com.sun.source.tree.ExpressionTree;
import com.sun.source.tree.IdentifierTree;
import com.sun.source.tree.MemberSelectTree;
import com.sun.source.tree.MethodInvocationTree;
import com.sun.source.tree.MethodTree;
import com.sun.source.tree.NewArrayTree;
import com.sun.source.tree.PrimitiveTypeTree;
import com.sun.source.tree.Tree;
import com.sun.source.tree.VariableTree;
import com.sun.source.util.JavacTask;
import com.sun.source.util.TreeScanner;
import com.sun.source.util.Trees;
import java.io.IOException;
import java.nio.file.Path;
import java.util.EnumSet;
import java.util.Map;
import java.util.Set;
import java.util.TreeMap;
import java.util.TreeSet;
import javax.lang.model.type.TypeKind;
import javax.tools.JavaCompiler;
import javax.tools.ToolProvider;

/** The rules of LANGUAGE.md that can be read off the source; run from the project's folder. */
public final class LanguageTest extends TreeScanner<Void, String> {
    private static final Path SOURCE = Path.of("src/main/java/PathJudge.java");
    private static final Set<Tree.Kind> BARRED = EnumSet.of(Tree.Kind.IMPORT, Tree.Kind.PACKAGE, Tree.Kind.THROW,
            Tree.Kind.TRY, Tree.Kind.CATCH, Tree.Kind.SYNCHRONIZED, Tree.Kind.ASSERT, Tree.Kind.INSTANCE_OF,
            Tree.Kind.LAMBDA_EXPRESSION, Tree.Kind.MEMBER_REFERENCE, Tree.Kind.NEW_CLASS, Tree.Kind.NULL_LITERAL,
            Tree.Kind.STRING_LITERAL, Tree.Kind.FLOAT_LITERAL, Tree.Kind.DOUBLE_LITERAL,
            Tree.Kind.ENHANCED_FOR_LOOP, Tree.Kind.INTERFACE, Tree.Kind.ENUM, Tree.Kind.RECORD);

    private final CompilationUnitTree unit;
    private final Trees trees;
    private final Map<String, Set<String>> calls = new TreeMap<>();
    private int fields = 0;
    private boolean insideArguments = false;

    private LanguageTest(CompilationUnitTree unit, Trees trees) {
        this.unit = unit;
        this.trees = trees;
    }

    public static void main(String[] args) throws IOException {
        JavaCompiler compiler = ToolProvider.getSystemJavaCompiler();
        var files = compiler.getStandardFileManager(null, null, null);
        JavacTask task = (JavacTask) compiler.getTask(null, files, null, null, null, files.getJavaFileObjects(SOURCE));
        CompilationUnitTree unit = task.parse().iterator().next();
        LanguageTest test = new LanguageTest(unit, Trees.instance(task));
        test.scan(unit, null);
        test.callsAreShallow();
        Due.holds("some forty fields: " + test.fields, test.fields <= 40);
        Due.end();
    }

    /** The second argument of every visit is the name of the method that the tree stands in. */
    @Override
    public Void scan(Tree tree, String method) {
        if (tree != null) {
            Due.holds("no " + tree.getKind() + " at line " + line(tree), !BARRED.contains(tree.getKind()));
        }
        return super.scan(tree, method);
    }

    private long line(Tree tree) {
        return unit.getLineMap().getLineNumber(trees.getSourcePositions().getStartPosition(unit, tree));
    }

    private long lastLine(Tree tree) {
        return unit.getLineMap().getLineNumber(trees.getSourcePositions().getEndPosition(unit, tree));
    }

    @Override
    public Void visitClass(ClassTree tree, String method) {
        Due.holds("one class", tree.getSimpleName().contentEquals("PathJudge"));
        for (Tree member : tree.getMembers()) {
            if (member instanceof VariableTree && !member.toString().contains("static final")) {
                fields++;
            }
        }
        return super.visitClass(tree, method);
    }

    @Override
    public Void visitMethod(MethodTree tree, String method) {
        String name = tree.getName().toString();
        Due.holds(name + " is declared once", calls.put(name, new TreeSet<>()) == null);
        Due.holds(name + " takes at most seven parameters", tree.getParameters().size() <= 7);
        Due.holds(name + " has some sixty lines at most", lastLine(tree) - line(tree) < 60);
        return super.visitMethod(tree, name);
    }

    @Override
    public Void visitVariable(VariableTree tree, String method) {
        String type = tree.getType().toString();
        Due.holds(tree.getName() + " is of a type that is left: " + type,
                Set.of("int", "long", "short", "byte", "char", "boolean", "int[]", "boolean[]").contains(type));
        return super.visitVariable(tree, method);
    }

    @Override
    public Void visitPrimitiveType(PrimitiveTypeTree tree, String method) {
        TypeKind kind = tree.getPrimitiveTypeKind();
        Due.holds("no float or double", kind != TypeKind.FLOAT && kind != TypeKind.DOUBLE);
        return super.visitPrimitiveType(tree, method);
    }

    @Override
    public Void visitNewArray(NewArrayTree tree, String method) {
        Due.holds("an array is made in a field's initialiser: line " + line(tree), method == null);
        Due.holds("an array has one length: line " + line(tree), tree.getDimensions().size() == 1);
        return super.visitNewArray(tree, method);
    }

    @Override
    public Void visitMemberSelect(MemberSelectTree tree, String method) {
        Due.holds("only this is selected from: " + tree, tree.getExpression().toString().equals("this"));
        return super.visitMemberSelect(tree, method);
    }

    @Override
    public Void visitMethodInvocation(MethodInvocationTree tree, String method) {
        Due.holds("no call in the arguments of another: line " + line(tree), !insideArguments);
        if (!tree.toString().equals("super()")) {
            Due.holds("a call by its plain name: " + tree, tree.getMethodSelect() instanceof IdentifierTree);
            calls.get(method).add(tree.getMethodSelect().toString());
        }
        boolean outer = insideArguments;
        insideArguments = true;
        for (ExpressionTree argument : tree.getArguments()) {
            scan(argument, method);
        }
        insideArguments = outer;
        return null;
    }

    /** Follows the calls for at most seven levels, so that it ends at a recursion too. */
    private void callsAreShallow() {
        for (String method : calls.keySet()) {
            Set<String> level = Set.of(method);
            int depth = 0;
            while (!level.isEmpty() && depth < 7) {
                Set<String> next = new TreeSet<>();
                for (String caller : level) {
                    Due.holds(caller + " is a method of the class", calls.containsKey(caller));
                    next.addAll(calls.getOrDefault(caller, Set.of()));
                }
                level = next;
                depth++;
            }
            Due.holds("calls from " + method + " go at most six deep", depth <= 6);
        }
    }
}
