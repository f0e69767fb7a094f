import com.sun.source.tree.ArrayAccessTree;
import com.sun.source.tree.AssertTree;
import com.sun.source.tree.AssignmentTree;
import com.sun.source.tree.BinaryTree;
import com.sun.source.tree.ClassTree;
import com.sun.source.tree.CompilationUnitTree;
import com.sun.source.tree.CompoundAssignmentTree;
import com.sun.source.tree.DoWhileLoopTree;
import com.sun.source.tree.ExpressionTree;
import com.sun.source.tree.ForLoopTree;
import com.sun.source.tree.IdentifierTree;
import com.sun.source.tree.LambdaExpressionTree;
import com.sun.source.tree.MemberReferenceTree;
import com.sun.source.tree.MemberSelectTree;
import com.sun.source.tree.MethodInvocationTree;
import com.sun.source.tree.MethodTree;
import com.sun.source.tree.NewArrayTree;
import com.sun.source.tree.NewClassTree;
import com.sun.source.tree.ParenthesizedTree;
import com.sun.source.tree.SynchronizedTree;
import com.sun.source.tree.ThrowTree;
import com.sun.source.tree.Tree;
import com.sun.source.tree.TryTree;
import com.sun.source.tree.TypeCastTree;
import com.sun.source.tree.UnaryTree;
import com.sun.source.tree.VariableTree;
import com.sun.source.tree.WhileLoopTree;
import com.sun.source.util.JavacTask;
import com.sun.source.util.SourcePositions;
import com.sun.source.util.TreePath;
import com.sun.source.util.TreePathScanner;
import com.sun.source.util.TreeScanner;
import com.sun.source.util.Trees;
import java.io.IOException;
import java.nio.file.Path;
import java.util.ArrayList;
import java.util.HashMap;
import java.util.List;
import java.util.Map;
import java.util.Set;
import java.util.TreeMap;
import java.util.TreeSet;
import javax.lang.model.element.Element;
import javax.lang.model.element.ElementKind;
import javax.lang.model.element.Modifier;
import javax.tools.JavaCompiler;
import javax.tools.StandardJavaFileManager;
import javax.tools.ToolProvider;

/** The rules of LANGUAGE.md, as far as the compiler's own tree of the class shows them; FaceTest has rule 1. */
public final class RulesTest extends TreePathScanner<Void, Void> {
    private static final Path SOURCE = Path.of("src/main/java/TwoAgree.java");
    private static final Set<String> TYPES = Set.of("int", "long", "boolean", "void", "int[]", "long[]", "String",
        "TwoAgree", "Island", "Law", "Parser", "Crowd", "Bribes", "Ledger", "Picture", "Changes", "Words", "Shelf",
        "Shelf[]");
    private static final Set<String> LIBRARY = Set.of("Math.min", "Math.max", "Math.abs", "Integer.bitCount",
        "System.arraycopy", "Arrays.fill", "String.indexOf", "String.length", "String.charAt");
    /** What calls itself, straight or round about: each is looked at by hand for its guard on the depth (rule 8). */
    private static final Set<String> CALLING_THEMSELVES = Set.of("Parser.readRank", "Parser.readOperand",
        "Crowd.mostAmong", "Bribes.bestFrom", "Bribes.bestBuying", "Words.run");
    private static final int MOST_LINES = 60, MOST_PARAMETERS = 7, MOST_DEEP = 8;

    private final Trees trees;
    private final SourcePositions positions;
    private final CompilationUnitTree unit;
    private final Map<String, Set<String>> calls = new TreeMap<>();
    private final Map<String, Boolean> isPrivate = new HashMap<>();
    private final Set<String> callingThemselves = new TreeSet<>();
    private String method = "";

    private RulesTest(Trees trees, CompilationUnitTree unit) {
        this.trees = trees;
        this.unit = unit;
        positions = trees.getSourcePositions();
    }

    public static void main(String[] args) throws IOException {
        JavaCompiler compiler = ToolProvider.getSystemJavaCompiler();
        try (StandardJavaFileManager files = compiler.getStandardFileManager(null, null, null)) {
            JavacTask task = (JavacTask) compiler.getTask(null, files, null, List.of("-proc:none"), null,
                files.getJavaFileObjects(SOURCE));
            CompilationUnitTree unit = task.parse().iterator().next();
            task.analyze();
            RulesTest test = new RulesTest(Trees.instance(task), unit);
            Due.is("one class in the file", unit.getTypeDecls().size(), 1);
            test.scan(unit, null);
            test.recursion();
            test.depth();
        }
        Due.end("RulesTest");
    }

    private void rule(int number, String what, Tree at, boolean holds) {
        long line = unit.getLineMap().getLineNumber(positions.getStartPosition(unit, at));
        Due.holds("rule " + number + ", line " + line + ": " + what, holds);
    }

    private void none(int number, Tree at) {
        rule(number, at.getKind() + " is not there", at, false);
    }

    private Element element(Tree tree) {
        return trees.getElement(TreePath.getPath(unit, tree));
    }

    private static String nameOf(Element member) {
        return member.getEnclosingElement().getSimpleName() + "." + member.getSimpleName();
    }

    // ---- rule 2: what classes there are; rule 6: what statements there are not

    @Override
    public Void visitClass(ClassTree tree, Void p) {
        Tree parent = getCurrentPath().getParentPath().getLeaf();
        boolean isOuter = parent instanceof CompilationUnitTree;
        rule(2, "a class stands in the file's class alone", tree, isOuter || parent instanceof ClassTree);
        rule(2, "it is static", tree, isOuter || tree.getModifiers().getFlags().contains(Modifier.STATIC));
        return super.visitClass(tree, p);
    }

    @Override
    public Void visitLambdaExpression(LambdaExpressionTree tree, Void p) {
        none(2, tree);
        return super.visitLambdaExpression(tree, p);
    }

    @Override
    public Void visitMemberReference(MemberReferenceTree tree, Void p) {
        none(2, tree);
        return super.visitMemberReference(tree, p);
    }

    @Override
    public Void visitThrow(ThrowTree tree, Void p) {
        none(6, tree);
        return super.visitThrow(tree, p);
    }

    @Override
    public Void visitTry(TryTree tree, Void p) {
        none(6, tree);
        return super.visitTry(tree, p);
    }

    @Override
    public Void visitSynchronized(SynchronizedTree tree, Void p) {
        none(6, tree);
        return super.visitSynchronized(tree, p);
    }

    @Override
    public Void visitAssert(AssertTree tree, Void p) {
        none(6, tree);
        return super.visitAssert(tree, p);
    }

    @Override
    public Void visitTypeCast(TypeCastTree tree, Void p) {
        String type = tree.getType().toString();
        rule(6, "a cast to " + type, tree, Set.of("byte", "short", "int", "char", "long").contains(type));
        return super.visitTypeCast(tree, p);
    }

    // ---- rules 3 and 5: types and fields

    @Override
    public Void visitVariable(VariableTree tree, Void p) {
        rule(3, "type " + tree.getType(), tree, TYPES.contains(tree.getType().toString()));
        boolean isStatic = tree.getModifiers().getFlags().contains(Modifier.STATIC);
        if (isStatic) {
            boolean isFinal = tree.getModifiers().getFlags().contains(Modifier.FINAL);
            rule(5, "static and final", tree, isFinal);
            rule(5, "written out", tree, tree.getInitializer() != null);
        }
        return super.visitVariable(tree, p);
    }

    @Override
    public Void visitAssignment(AssignmentTree tree, Void p) {
        changes(tree.getVariable());
        return super.visitAssignment(tree, p);
    }

    @Override
    public Void visitCompoundAssignment(CompoundAssignmentTree tree, Void p) {
        changes(tree.getVariable());
        return super.visitCompoundAssignment(tree, p);
    }

    /** A static array is never changed. */
    private void changes(ExpressionTree variable) {
        if (variable instanceof ArrayAccessTree) {
            Element array = element(((ArrayAccessTree) variable).getExpression());
            rule(5, "a static array stays", variable, !array.getModifiers().contains(Modifier.STATIC));
        }
    }

    // ---- rules 4 and 12: the library, and what is made

    @Override
    public Void visitMethodInvocation(MethodInvocationTree tree, Void p) {
        Element called = element(tree.getMethodSelect());
        String name = nameOf(called);
        boolean isOwn = called.getEnclosingElement().toString().startsWith("TwoAgree");
        boolean isSuper = called.getKind() == ElementKind.CONSTRUCTOR;
        rule(4, "the library's " + name, tree, isOwn || isSuper || LIBRARY.contains(name));
        if (isOwn) {
            calls.computeIfAbsent(method, k -> new TreeSet<>()).add(name);
        }
        return super.visitMethodInvocation(tree, p);
    }

    @Override
    public Void visitNewClass(NewClassTree tree, Void p) {
        rule(2, "no class without a name", tree, tree.getClassBody() == null);
        rule(12, "made with the object alone", tree, method.isEmpty() || method.endsWith(".<init>"));
        return super.visitNewClass(tree, p);
    }

    @Override
    public Void visitNewArray(NewArrayTree tree, Void p) {
        rule(12, "made with the object alone", tree, method.isEmpty() || method.endsWith(".<init>"));
        return super.visitNewArray(tree, p);
    }

    // ---- rule 9: loops end; rule 10: no texts are joined by +

    @Override
    public Void visitForLoop(ForLoopTree tree, Void p) {
        ends(tree, tree.getCondition());
        return super.visitForLoop(tree, p);
    }

    @Override
    public Void visitWhileLoop(WhileLoopTree tree, Void p) {
        ends(tree, tree.getCondition());
        return super.visitWhileLoop(tree, p);
    }

    @Override
    public Void visitDoWhileLoop(DoWhileLoopTree tree, Void p) {
        ends(tree, tree.getCondition());
        return super.visitDoWhileLoop(tree, p);
    }

    /** One of those conditions that all must hold is a counter below a bound, and the loop moves that counter up. */
    private void ends(Tree loop, ExpressionTree condition) {
        boolean bounded = false;
        for (ExpressionTree one : parts(condition)) {
            if (one.getKind() == Tree.Kind.LESS_THAN || one.getKind() == Tree.Kind.LESS_THAN_EQUAL) {
                String counter = ((BinaryTree) one).getLeftOperand().toString();
                bounded |= movesUp(loop, counter);
            }
        }
        rule(9, "a counter goes up to a bound", loop, bounded);
    }

    private static List<ExpressionTree> parts(ExpressionTree condition) {
        List<ExpressionTree> all = new ArrayList<>();
        ExpressionTree rest = condition;
        while (rest instanceof ParenthesizedTree) {
            rest = ((ParenthesizedTree) rest).getExpression();
        }
        while (rest instanceof BinaryTree && rest.getKind() == Tree.Kind.CONDITIONAL_AND) {
            all.add(((BinaryTree) rest).getRightOperand());
            rest = ((BinaryTree) rest).getLeftOperand();
        }
        if (rest != null) {
            all.add(rest);
        }
        return all;
    }

    private static boolean movesUp(Tree loop, String counter) {
        boolean[] found = {false};
        new TreeScanner<Void, Void>() {
            @Override
            public Void visitUnary(UnaryTree tree, Void p) {
                found[0] |= tree.getKind() == Tree.Kind.POSTFIX_INCREMENT && tree.getExpression().toString().equals(counter);
                return super.visitUnary(tree, p);
            }

            @Override
            public Void visitCompoundAssignment(CompoundAssignmentTree tree, Void p) {
                found[0] |= tree.getKind() == Tree.Kind.PLUS_ASSIGNMENT && tree.getVariable().toString().equals(counter);
                return super.visitCompoundAssignment(tree, p);
            }
        }.scan(loop, null);
        return found[0];
    }

    @Override
    public Void visitBinary(BinaryTree tree, Void p) {
        String type = String.valueOf(trees.getTypeMirror(getCurrentPath()));
        rule(10, "no texts are joined by +", tree, !type.equals("java.lang.String"));
        return super.visitBinary(tree, p);
    }

    // ---- rules 8 and 11: methods

    @Override
    public Void visitMethod(MethodTree tree, Void p) {
        String before = method;
        method = nameOf(trees.getElement(getCurrentPath()));
        isPrivate.put(method, tree.getModifiers().getFlags().contains(Modifier.PRIVATE));
        long from = positions.getStartPosition(unit, tree);
        if (from >= 0) {
            long first = unit.getLineMap().getLineNumber(from);
            long last = unit.getLineMap().getLineNumber(Math.max(from, positions.getEndPosition(unit, tree)));
            rule(11, method + " is short", tree, last - first + 1 <= MOST_LINES);
            rule(11, method + " takes few", tree, tree.getParameters().size() <= MOST_PARAMETERS);
        }
        super.visitMethod(tree, p);
        method = before;
        return null;
    }

    private boolean reaches(String from, String to, Set<String> seen) {
        for (String next : calls.getOrDefault(from, Set.of())) {
            if (next.equals(to) || seen.add(next) && reaches(next, to, seen)) {
                return true;
            }
        }
        return false;
    }

    private void recursion() {
        for (String one : calls.keySet()) {
            if (reaches(one, one, new TreeSet<>())) {
                callingThemselves.add(one);
                Due.holds("rule 8: " + one + " is private", isPrivate.getOrDefault(one, false));
            }
        }
        boolean asListed = callingThemselves.equals(new TreeSet<>(CALLING_THEMSELVES));
        Due.holds("rule 8: these call themselves: " + callingThemselves, asListed);
    }

    /** How deep calls go, those of a recursion among themselves left out. */
    private int deep(String from) {
        int most = 0;
        for (String next : calls.getOrDefault(from, Set.of())) {
            boolean isRecursion = callingThemselves.contains(from) && callingThemselves.contains(next);
            most = Math.max(most, isRecursion ? 0 : deep(next));
        }
        return most + 1;
    }

    private void depth() {
        int most = 0;
        for (String one : calls.keySet()) {
            int deep = deep(one);
            most = Math.max(most, deep);
            Due.holds("rule 11: calls go eight deep at most, not " + deep + ": " + one, deep <= MOST_DEEP);
        }
        Due.holds("some calls were seen", most > 3);
    }

    // ---- what is named stands in the file or in the library that the rules list

    @Override
    public Void visitIdentifier(IdentifierTree tree, Void p) {
        Element named = element(tree);
        if (named != null && (named.getKind() == ElementKind.CLASS || named.getKind() == ElementKind.INTERFACE)) {
            String name = named.toString();
            boolean isKnown = name.startsWith("TwoAgree") || Set.of("java.lang.String", "java.lang.Math",
                "java.lang.Integer", "java.lang.Long", "java.lang.System", "java.util.Arrays").contains(name);
            rule(4, name, tree, isKnown);
        }
        return super.visitIdentifier(tree, p);
    }

    @Override
    public Void visitMemberSelect(MemberSelectTree tree, Void p) {
        rule(6, "." + tree.getIdentifier(), tree, !Set.of("getClass", "equals", "hashCode", "toString")
            .contains(tree.getIdentifier().toString()));
        return super.visitMemberSelect(tree, p);
    }
}
