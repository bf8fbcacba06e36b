import com.sun.source.tree.ArrayAccessTree;
import com.sun.source.tree.AssignmentTree;
import com.sun.source.tree.BinaryTree;
import com.sun.source.tree.BlockTree;
import com.sun.source.tree.ClassTree;
import com.sun.source.tree.CompilationUnitTree;
import com.sun.source.tree.CompoundAssignmentTree;
import com.sun.source.tree.DoWhileLoopTree;
import com.sun.source.tree.EnhancedForLoopTree;
import com.sun.source.tree.ExpressionTree;
import com.sun.source.tree.ForLoopTree;
import com.sun.source.tree.MethodInvocationTree;
import com.sun.source.tree.MethodTree;
import com.sun.source.tree.NewArrayTree;
import com.sun.source.tree.NewClassTree;
import com.sun.source.tree.ParenthesizedTree;
import com.sun.source.tree.Tree;
import com.sun.source.tree.TypeCastTree;
import com.sun.source.tree.UnaryTree;
import com.sun.source.tree.VariableTree;
import com.sun.source.tree.WhileLoopTree;
import com.sun.source.util.JavacTask;
import com.sun.source.util.TreePath;
import com.sun.source.util.TreePathScanner;
import com.sun.source.util.Trees;
import java.nio.file.Path;
import java.util.ArrayList;
import java.util.LinkedHashMap;
import java.util.LinkedHashSet;
import java.util.List;
import java.util.Map;
import java.util.Set;
import javax.lang.model.element.Element;
import javax.lang.model.element.ElementKind;
import javax.lang.model.element.Modifier;
import javax.tools.JavaCompiler;
import javax.tools.StandardJavaFileManager;
import javax.tools.ToolProvider;

/** The rules of LANGUAGE.md that the compiler's own reading of the source shows; the number is the rule's. */
public final class SourceTest extends TreePathScanner<Void, Void> {
    private static final int DEEPEST = 8;

    private static final Set<Tree.Kind> RULED_OUT = Set.of(
            Tree.Kind.THROW, Tree.Kind.TRY, Tree.Kind.SYNCHRONIZED, Tree.Kind.ASSERT, Tree.Kind.LAMBDA_EXPRESSION,
            Tree.Kind.MEMBER_REFERENCE, Tree.Kind.IMPORT, Tree.Kind.PACKAGE, Tree.Kind.SWITCH_EXPRESSION,
            Tree.Kind.BINDING_PATTERN, Tree.Kind.ANNOTATION, Tree.Kind.INTERFACE, Tree.Kind.ENUM, Tree.Kind.RECORD);

    private static final Set<String> LIBRARY = Set.of(
            "java.lang.Integer.bitCount", "java.lang.Long.bitCount", "java.lang.Math.min", "java.lang.Math.max",
            "java.lang.String.length", "java.lang.String.charAt", "java.lang.Object.<init>");

    private static final Set<String> PLAIN_TYPES = Set.of(
            "int", "long", "byte", "char", "boolean", "java.lang.String", "int[]", "long[]", "byte[]");

    /** Divisors, as method and text: each was looked at, that it can't be 0 there. */
    private static final Set<String> DIVISORS = Set.of(
            "binomial i", "commonDivisor y", "quotient divisor", "arcsOf n", "lay block", "namings 2",
            "remember ROOM", "latest ROOM");

    private static int wrong = 0;

    private final CompilationUnitTree unit;
    private final Trees trees;
    private final Map<Element, Set<Element>> calls = new LinkedHashMap<>();

    private SourceTest(CompilationUnitTree unit, Trees trees) {
        this.unit = unit;
        this.trees = trees;
    }

    private void must(boolean good, int rule, String what, Tree where) {
        if (!good) {
            wrong++;
            long line = unit.getLineMap().getLineNumber(trees.getSourcePositions().getStartPosition(unit, where));
            System.out.println("rule " + rule + ", line " + line + ": " + what);
        }
    }

    private Element element(Tree tree) {
        return trees.getElement(new TreePath(getCurrentPath(), tree));
    }

    /** The method or constructor around what is looked at, or null in a class's own rows. */
    private MethodTree around() {
        for (TreePath p = getCurrentPath(); p != null; p = p.getParentPath()) {
            if (p.getLeaf() instanceof MethodTree) {
                return (MethodTree) p.getLeaf();
            }
        }
        return null;
    }

    private String nameAround() {
        return around() == null ? "a class" : around().getName().toString();
    }

    private boolean isOwn(String type) {
        return type.startsWith("MeetingSets") && !type.endsWith("[][]");
    }

    @Override
    public Void scan(Tree tree, Void nothing) {
        if (tree != null) {
            int rule = tree.getKind() == Tree.Kind.LAMBDA_EXPRESSION || tree.getKind() == Tree.Kind.MEMBER_REFERENCE ? 2 : 6;
            must(!RULED_OUT.contains(tree.getKind()), rule, "no " + tree.getKind(), tree);
        }
        return super.scan(tree, nothing);
    }

    // ---- classes, fields, types

    @Override
    public Void visitClass(ClassTree tree, Void nothing) {
        must(around() == null, 2, "no class inside a method", tree);
        for (Tree member : tree.getMembers()) {
            must(!(member instanceof BlockTree), 5, "no block of a class's own", member);
        }
        return super.visitClass(tree, nothing);
    }

    @Override
    public Void visitVariable(VariableTree tree, Void nothing) {
        String type = trees.getTypeMirror(getCurrentPath()).toString();
        must(PLAIN_TYPES.contains(type) || isOwn(type), 3, "no variable of type " + type, tree);
        boolean constant = tree.getModifiers().getFlags().contains(Modifier.STATIC);
        if (constant && type.endsWith("[]")) {
            boolean written = tree.getInitializer() instanceof NewArrayTree
                    && ((NewArrayTree) tree.getInitializer()).getInitializers() != null;
            must(written, 5, "a constant row is written out", tree);
        }
        return super.visitVariable(tree, nothing);
    }

    private void mayChange(ExpressionTree target) {
        if (target instanceof ArrayAccessTree) {
            Element row = element(((ArrayAccessTree) target).getExpression());
            must(row == null || !row.getModifiers().contains(Modifier.STATIC), 5, "no constant row is changed", target);
        }
    }

    @Override
    public Void visitAssignment(AssignmentTree tree, Void nothing) {
        mayChange(tree.getVariable());
        return super.visitAssignment(tree, nothing);
    }

    @Override
    public Void visitUnary(UnaryTree tree, Void nothing) {
        String kind = tree.getKind().name();
        if (kind.endsWith("INCREMENT") || kind.endsWith("DECREMENT")) {
            mayChange(tree.getExpression());
        }
        return super.visitUnary(tree, nothing);
    }

    // ---- what could throw

    private void mayDivide(Tree.Kind kind, ExpressionTree divisor, Tree where) {
        boolean divides = kind == Tree.Kind.DIVIDE || kind == Tree.Kind.REMAINDER
                || kind == Tree.Kind.DIVIDE_ASSIGNMENT || kind == Tree.Kind.REMAINDER_ASSIGNMENT;
        String text = nameAround() + " " + divisor;
        must(!divides || DIVISORS.contains(text), 7, "a divisor that has been looked at: " + text, where);
    }

    @Override
    public Void visitBinary(BinaryTree tree, Void nothing) {
        mayDivide(tree.getKind(), tree.getRightOperand(), tree);
        return super.visitBinary(tree, nothing);
    }

    @Override
    public Void visitCompoundAssignment(CompoundAssignmentTree tree, Void nothing) {
        mayChange(tree.getVariable());
        mayDivide(tree.getKind(), tree.getExpression(), tree);
        return super.visitCompoundAssignment(tree, nothing);
    }

    @Override
    public Void visitTypeCast(TypeCastTree tree, Void nothing) {
        must(tree.getType().getKind() == Tree.Kind.PRIMITIVE_TYPE, 6, "casts of numbers alone", tree);
        return super.visitTypeCast(tree, nothing);
    }

    // ---- loops

    /** An end to be seen: some part of the condition, joined by 'and', holds a number against a bound. */
    private void mustEnd(ExpressionTree condition, Tree loop) {
        must(condition != null && isBounded(condition), 9, "a loop with a bound", loop);
    }

    private static boolean isBounded(Tree condition) {
        switch (condition.getKind()) {
            case PARENTHESIZED:
                return isBounded(((ParenthesizedTree) condition).getExpression());
            case CONDITIONAL_AND:
                return isBounded(((BinaryTree) condition).getLeftOperand())
                        || isBounded(((BinaryTree) condition).getRightOperand());
            case LESS_THAN:
            case LESS_THAN_EQUAL:
            case GREATER_THAN:
            case GREATER_THAN_EQUAL:
                return true;
            default:
                return false;
        }
    }

    @Override
    public Void visitForLoop(ForLoopTree tree, Void nothing) {
        mustEnd(tree.getCondition(), tree);
        must(tree.getUpdate().size() == 1, 9, "a loop with a counter", tree);
        return super.visitForLoop(tree, nothing);
    }

    @Override
    public Void visitWhileLoop(WhileLoopTree tree, Void nothing) {
        mustEnd(tree.getCondition(), tree);
        return super.visitWhileLoop(tree, nothing);
    }

    @Override
    public Void visitDoWhileLoop(DoWhileLoopTree tree, Void nothing) {
        mustEnd(tree.getCondition(), tree);
        return super.visitDoWhileLoop(tree, nothing);
    }

    @Override
    public Void visitEnhancedForLoop(EnhancedForLoopTree tree, Void nothing) {
        String type = trees.getTypeMirror(new TreePath(getCurrentPath(), tree.getExpression())).toString();
        must(type.endsWith("[]"), 12, "a loop over a list goes by index", tree);
        return super.visitEnhancedForLoop(tree, nothing);
    }

    // ---- methods and what they call

    @Override
    public Void visitMethod(MethodTree tree, Void nothing) {
        calls.computeIfAbsent(trees.getElement(getCurrentPath()), m -> new LinkedHashSet<>());
        long from = trees.getSourcePositions().getStartPosition(unit, tree);
        long to = trees.getSourcePositions().getEndPosition(unit, tree);
        long lines = unit.getLineMap().getLineNumber(to) - unit.getLineMap().getLineNumber(Math.max(0, from)) + 1;
        must(lines <= 60, 11, "a short method: " + tree.getName(), tree);
        must(tree.getParameters().size() <= 7, 11, "at most seven parameters: " + tree.getName(), tree);
        return super.visitMethod(tree, nothing);
    }

    private void goesTo(Element callee, Tree where) {
        String owner = callee.getEnclosingElement().toString();
        if (!isOwn(owner)) {
            String name = owner + "." + callee.getSimpleName();
            must(LIBRARY.contains(name), 4, "a library call that has been looked at: " + name, where);
        } else if (around() != null) {
            Element caller = trees.getElement(trees.getPath(unit, around()));
            calls.computeIfAbsent(caller, m -> new LinkedHashSet<>()).add(callee);
        }
    }

    @Override
    public Void visitMethodInvocation(MethodInvocationTree tree, Void nothing) {
        goesTo(trees.getElement(getCurrentPath()), tree);
        return super.visitMethodInvocation(tree, nothing);
    }

    private void mayMake(Tree where) {
        boolean atStart = around() == null || around().getReturnType() == null;
        must(atStart, 12, "objects and arrays are made in constructors alone, not in " + nameAround(), where);
    }

    @Override
    public Void visitNewClass(NewClassTree tree, Void nothing) {
        must(tree.getClassBody() == null, 2, "no class without a name", tree);
        mayMake(tree);
        goesTo(trees.getElement(getCurrentPath()), tree);
        return super.visitNewClass(tree, nothing);
    }

    @Override
    public Void visitNewArray(NewArrayTree tree, Void nothing) {
        mayMake(tree);
        must(tree.getDimensions().size() <= 1, 3, "rows of one dimension", tree);
        return super.visitNewArray(tree, nothing);
    }

    /** How many methods stand open at once from one on; path has those that are open. */
    private int depth(Element method, List<Element> path) {
        if (path.contains(method)) {
            wrong++;
            System.out.println("rule 8: " + method + " calls itself by way of " + path);
            return 0;
        }
        path.add(method);
        int deepest = 0;
        for (Element callee : calls.getOrDefault(method, Set.of())) {
            deepest = Math.max(deepest, depth(callee, path));
        }
        path.remove(path.size() - 1);
        return deepest + 1;
    }

    private int callsAreShallow() {
        int deepest = 0;
        for (Element method : calls.keySet()) {
            int deep = depth(method, new ArrayList<>());
            if (deep > DEEPEST) {
                wrong++;
                System.out.println("rule 11: calls from " + method + " go " + deep + " deep");
            }
            deepest = Math.max(deepest, deep);
        }
        return deepest;
    }

    /** A private method that none calls says nothing of the program. */
    private void allAreCalled() {
        Set<Element> called = new LinkedHashSet<>();
        calls.values().forEach(called::addAll);
        for (Element method : calls.keySet()) {
            boolean open = method.getModifiers().contains(Modifier.PUBLIC) || method.getKind() == ElementKind.CONSTRUCTOR;
            if (!open && !called.contains(method)) {
                wrong++;
                System.out.println("nobody calls " + method);
            }
        }
    }

    public static void main(String[] args) throws Exception {
        String named = System.getenv("MEETING_SETS_SOURCE");
        Path source = Path.of(named == null ? "src/main/java/MeetingSets.java" : named);
        JavaCompiler compiler = ToolProvider.getSystemJavaCompiler();
        try (StandardJavaFileManager files = compiler.getStandardFileManager(null, null, null)) {
            JavacTask task = (JavacTask) compiler.getTask(
                    null, files, null, List.of("-proc:none"), null, files.getJavaFileObjects(source));
            CompilationUnitTree unit = task.parse().iterator().next();
            task.analyze();
            SourceTest test = new SourceTest(unit, Trees.instance(task));
            test.scan(new TreePath(unit), null);
            int deepest = test.callsAreShallow();
            test.allAreCalled();
            System.out.println(test.calls.size() + " methods, calls go " + deepest + " deep, "
                    + wrong + " things against the rules");
        }
        if (wrong != 0) {
            System.exit(1);
        }
    }
}
