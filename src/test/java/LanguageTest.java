import com.sun.source.tree.AssignmentTree;
import com.sun.source.tree.BinaryTree;
import com.sun.source.tree.BlockTree;
import com.sun.source.tree.ClassTree;
import com.sun.source.tree.CompilationUnitTree;
import com.sun.source.tree.CompoundAssignmentTree;
import com.sun.source.tree.ExpressionTree;
import com.sun.source.tree.ForLoopTree;
import com.sun.source.tree.IdentifierTree;
import com.sun.source.tree.MemberSelectTree;
import com.sun.source.tree.MethodInvocationTree;
import com.sun.source.tree.MethodTree;
import com.sun.source.tree.NewArrayTree;
import com.sun.source.tree.PrimitiveTypeTree;
import com.sun.source.tree.ReturnTree;
import com.sun.source.tree.Tree;
import com.sun.source.tree.TypeCastTree;
import com.sun.source.tree.UnaryTree;
import com.sun.source.tree.VariableTree;
import com.sun.source.util.JavacTask;
import com.sun.source.util.TreeScanner;
import com.sun.source.util.Trees;
import java.io.IOException;
import java.nio.file.Path;
import java.util.ArrayList;
import java.util.EnumSet;
import java.util.List;
import java.util.Map;
import java.util.Set;
import java.util.TreeMap;
import java.util.TreeSet;
import javax.lang.model.element.Modifier;
import javax.lang.model.type.TypeKind;
import javax.tools.JavaCompiler;
import javax.tools.ToolProvider;

/**
 * The rules of LANGUAGE.md that can be read off the source; run from the project's folder. Where a rule leaves more
 * than the class needs (a while loop, a local variable that names an array), the test bars it: less to look at.
 */
public final class LanguageTest extends TreeScanner<Void, String> {
    private static final Path SOURCE = Path.of("src/main/java/PathJudge.java");
    private static final Set<Tree.Kind> BARRED = EnumSet.of(Tree.Kind.IMPORT, Tree.Kind.PACKAGE, Tree.Kind.THROW,
            Tree.Kind.TRY, Tree.Kind.CATCH, Tree.Kind.SYNCHRONIZED, Tree.Kind.ASSERT, Tree.Kind.INSTANCE_OF,
            Tree.Kind.LAMBDA_EXPRESSION, Tree.Kind.MEMBER_REFERENCE, Tree.Kind.NEW_CLASS, Tree.Kind.NULL_LITERAL,
            Tree.Kind.STRING_LITERAL, Tree.Kind.FLOAT_LITERAL, Tree.Kind.DOUBLE_LITERAL,
            Tree.Kind.ENHANCED_FOR_LOOP, Tree.Kind.WHILE_LOOP, Tree.Kind.DO_WHILE_LOOP, Tree.Kind.INTERFACE,
            Tree.Kind.ENUM, Tree.Kind.RECORD, Tree.Kind.ANNOTATION);
    private static final Set<String> NUMBER_TYPES = Set.of("int", "long", "short", "byte", "char", "boolean");
    private static final Set<Tree.Kind> COUNTING = EnumSet.of(Tree.Kind.PREFIX_INCREMENT, Tree.Kind.PREFIX_DECREMENT,
            Tree.Kind.POSTFIX_INCREMENT, Tree.Kind.POSTFIX_DECREMENT);
    private static final Set<Tree.Kind> COMPARISONS = EnumSet.of(Tree.Kind.LESS_THAN, Tree.Kind.LESS_THAN_EQUAL,
            Tree.Kind.GREATER_THAN, Tree.Kind.GREATER_THAN_EQUAL);

    private final CompilationUnitTree unit;
    private final Trees trees;
    private final Map<String, Set<String>> calls = new TreeMap<>();
    private final Set<String> arrays = new TreeSet<>();
    private final List<String> counters = new ArrayList<>();
    private int fields = 0;
    private boolean insideArguments = false;

    private LanguageTest(CompilationUnitTree unit, Trees trees) {
        this.unit = unit;
        this.trees = trees;
    }

    public static void main(String[] args) throws IOException {
        JavaCompiler compiler = ToolProvider.getSystemJavaCompiler();
        var files = compiler.getStandardFileManager(null, null, null);
        JavacTask task = (JavacTask) compiler.getTask(null, files, null, null, null, files.getJavaFileObjects(SOURCE));
        CompilationUnitTree unit = task.parse().iterator().next();
        LanguageTest test = new LanguageTest(unit, Trees.instance(task));
        test.scan(unit, null);
        test.callsAreShallow();
        Due.holds("some forty fields: " + test.fields, test.fields <= 40);
        Due.end();
    }

    /** The second argument of every visit is the name of the method that the tree stands in. */
    @Override
    public Void scan(Tree tree, String method) {
        if (tree != null) {
            Due.holds("no " + tree.getKind() + " at line " + line(tree), !BARRED.contains(tree.getKind()));
        }
        return super.scan(tree, method);
    }

    private long line(Tree tree) {
        return unit.getLineMap().getLineNumber(trees.getSourcePositions().getStartPosition(unit, tree));
    }

    private long lastLine(Tree tree) {
        return unit.getLineMap().getLineNumber(trees.getSourcePositions().getEndPosition(unit, tree));
    }

    @Override
    public Void visitClass(ClassTree tree, String method) {
        Due.holds("one class", tree.getSimpleName().contentEquals("PathJudge"));
        for (Tree member : tree.getMembers()) {
            if (member instanceof VariableTree) {
                field((VariableTree) member);
            }
        }
        return super.visitClass(tree, method);
    }

    private void field(VariableTree tree) {
        String type = tree.getType().toString();
        Set<Modifier> modifiers = tree.getModifiers().getFlags();
        if (modifiers.contains(Modifier.STATIC)) {
            Due.holds(tree.getName() + " is a constant of int or long", modifiers.contains(Modifier.FINAL)
                    && Set.of("int", "long").contains(type) && tree.getInitializer() != null);
            return;
        }
        fields++;
        if (!NUMBER_TYPES.contains(type)) {
            arrays.add(tree.getName().toString());
            Due.holds(tree.getName() + " is an array that stays", modifiers.contains(Modifier.FINAL));
        }
    }

    @Override
    public Void visitBlock(BlockTree tree, String method) {
        Due.holds("no initialiser without a name: line " + line(tree), method != null && !tree.isStatic());
        return super.visitBlock(tree, method);
    }

    @Override
    public Void visitMethod(MethodTree tree, String method) {
        String name = tree.getName().toString();
        Due.holds(name + " is declared once", calls.put(name, new TreeSet<>()) == null);
        Due.holds(name + " takes at most seven parameters", tree.getParameters().size() <= 7);
        Due.holds(name + " has some sixty lines at most", lastLine(tree) - line(tree) < 60);
        String type = String.valueOf(tree.getReturnType());
        boolean isConstructor = tree.getReturnType() == null;
        Due.holds(name + " answers a number or nothing: " + type,
                isConstructor || type.equals("void") || NUMBER_TYPES.contains(type));
        return super.visitMethod(tree, name);
    }

    @Override
    public Void visitVariable(VariableTree tree, String method) {
        String type = tree.getType().toString();
        boolean isField = method == null;
        Due.holds(tree.getName() + " is of a type that is left: " + type, NUMBER_TYPES.contains(type)
                || isField && Set.of("int[]", "boolean[]").contains(type));
        return super.visitVariable(tree, method);
    }

    @Override
    public Void visitPrimitiveType(PrimitiveTypeTree tree, String method) {
        TypeKind kind = tree.getPrimitiveTypeKind();
        Due.holds("no float or double", kind != TypeKind.FLOAT && kind != TypeKind.DOUBLE);
        return super.visitPrimitiveType(tree, method);
    }

    @Override
    public Void visitNewArray(NewArrayTree tree, String method) {
        Due.holds("an array is made in a field's initialiser: line " + line(tree), method == null);
        Due.holds("an array has one length: line " + line(tree), tree.getDimensions().size() == 1);
        for (ExpressionTree length : tree.getDimensions()) {
            Due.holds("the length is a literal or a constant: " + length,
                    length.toString().matches("[1-9]\\d*|[A-Z_]+"));
        }
        return super.visitNewArray(tree, method);
    }

    @Override
    public Void visitTypeCast(TypeCastTree tree, String method) {
        Due.holds("a cast between number types: " + tree, NUMBER_TYPES.contains(tree.getType().toString()));
        return super.visitTypeCast(tree, method);
    }

    /** An array is named only to be indexed: what else there is (answers, comparisons) names it whole. */
    private void isNoArray(ExpressionTree tree) {
        if (tree != null) {
            String name = tree.toString().replace("this.", "").replaceAll("[()]", "");
            Due.holds(tree + " is no whole array: line " + line(tree), !arrays.contains(name));
        }
    }

    @Override
    public Void visitReturn(ReturnTree tree, String method) {
        isNoArray(tree.getExpression());
        return super.visitReturn(tree, method);
    }

    @Override
    public Void visitBinary(BinaryTree tree, String method) {
        isNoArray(tree.getLeftOperand());
        isNoArray(tree.getRightOperand());
        return super.visitBinary(tree, method);
    }

    /** The one counter of a loop goes up or down by one, is held against a bound, and is left alone in between. */
    @Override
    public Void visitForLoop(ForLoopTree tree, String method) {
        String counter = tree.getInitializer().size() == 1 && tree.getInitializer().get(0) instanceof VariableTree
                ? ((VariableTree) tree.getInitializer().get(0)).getName().toString() : "";
        Due.holds("a loop has one counter: line " + line(tree), !counter.isEmpty());
        Due.holds("the counter is held against a bound: line " + line(tree), isBounded(tree.getCondition(), counter));
        String update = tree.getUpdate().toString().replace(";", "");
        Due.holds("the counter is counted: " + update + " at line " + line(tree),
                update.equals(counter + "++") || update.equals(counter + "--"));
        counters.add(counter);
        scan(tree.getInitializer(), method);
        scan(tree.getCondition(), method);
        scan(tree.getStatement(), method);
        counters.remove(counter);
        return null;
    }

    private static boolean isBounded(ExpressionTree condition, String counter) {
        if (!(condition instanceof BinaryTree)) {
            return false;
        }
        BinaryTree tree = (BinaryTree) condition;
        if (tree.getKind() == Tree.Kind.CONDITIONAL_AND) {
            return isBounded(tree.getLeftOperand(), counter) || isBounded(tree.getRightOperand(), counter);
        }
        return COMPARISONS.contains(tree.getKind()) && tree.getLeftOperand().toString().equals(counter);
    }

    private void isNoCounter(ExpressionTree tree) {
        Due.holds("no counter is set in its loop: line " + line(tree), !counters.contains(tree.toString()));
    }

    @Override
    public Void visitAssignment(AssignmentTree tree, String method) {
        isNoCounter(tree.getVariable());
        isNoArray(tree.getExpression());
        return super.visitAssignment(tree, method);
    }

    @Override
    public Void visitCompoundAssignment(CompoundAssignmentTree tree, String method) {
        isNoCounter(tree.getVariable());
        return super.visitCompoundAssignment(tree, method);
    }

    @Override
    public Void visitUnary(UnaryTree tree, String method) {
        if (COUNTING.contains(tree.getKind())) {
            isNoCounter(tree.getExpression());
        }
        return super.visitUnary(tree, method);
    }

    @Override
    public Void visitMemberSelect(MemberSelectTree tree, String method) {
        Due.holds("only this is selected from: " + tree, tree.getExpression().toString().equals("this"));
        return super.visitMemberSelect(tree, method);
    }

    @Override
    public Void visitMethodInvocation(MethodInvocationTree tree, String method) {
        Due.holds("no call in the arguments of another: line " + line(tree), !insideArguments);
        if (!tree.toString().equals("super()")) {
            Due.holds("a call by its plain name: " + tree, tree.getMethodSelect() instanceof IdentifierTree);
            calls.get(method).add(tree.getMethodSelect().toString());
        }
        boolean outer = insideArguments;
        insideArguments = true;
        for (ExpressionTree argument : tree.getArguments()) {
            scan(argument, method);
        }
        insideArguments = outer;
        return null;
    }

    /** Follows the calls for at most seven levels, so that it ends at a recursion too. */
    private void callsAreShallow() {
        for (String method : calls.keySet()) {
            Set<String> level = Set.of(method);
            int depth = 0;
            while (!level.isEmpty() && depth < 7) {
                Set<String> next = new TreeSet<>();
                for (String caller : level) {
                    Due.holds(caller + " is a method of the class", calls.containsKey(caller));
                    next.addAll(calls.getOrDefault(caller, Set.of()));
                }
                level = next;
                depth++;
            }
            Due.holds("calls from " + method + " go at most six deep", depth <= 6);
        }
    }
}
