import com.sun.source.tree.ArrayTypeTree;
import com.sun.source.tree.ClassTree;
import com.sun.source.tree.CompilationUnitTree;
import com.sun.source.tree.DoWhileLoopTree;
import com.sun.source.tree.ExpressionTree;
import com.sun.source.tree.ForLoopTree;
import com.sun.source.tree.IdentifierTree;
import com.sun.source.tree.LineMap;
import com.sun.source.tree.LiteralTree;
import com.sun.source.tree.MemberSelectTree;
import com.sun.source.tree.MethodInvocationTree;
import com.sun.source.tree.MethodTree;
import com.sun.source.tree.NewArrayTree;
import com.sun.source.tree.ParenthesizedTree;
import com.sun.source.tree.PrimitiveTypeTree;
import com.sun.source.tree.Tree;
import com.sun.source.tree.TypeCastTree;
import com.sun.source.tree.VariableTree;
import com.sun.source.tree.WhileLoopTree;
import com.sun.source.util.JavacTask;
import com.sun.source.util.SourcePositions;
import com.sun.source.util.TreeScanner;
import com.sun.source.util.Trees;
import java.nio.file.Path;
import java.util.ArrayList;
import java.util.EnumMap;
import java.util.EnumSet;
import java.util.HashMap;
import java.util.HashSet;
import java.util.List;
import java.util.Map;
import java.util.Set;
import javax.lang.model.element.Modifier;
import javax.lang.model.type.TypeKind;
import javax.tools.JavaCompiler;
import javax.tools.StandardJavaFileManager;
import javax.tools.ToolProvider;

/**
 * Those rules of LANGUAGE.md that show in the text of the class; FaceTest has those that show on the compiled class.
 * Where the class needs less than a rule leaves, the test is narrower than the rule: arrays are fields alone, and loops
 * count upwards.
 */
public final class LanguageTest extends TreeScanner<Void, Void> {
    private static final Path PROGRAM = Path.of("src/main/java/ConditionEscrow.java");
    private static final int MOST_DEEP = 6;
    private static final int MOST_LINES = 60;

    private static final Map<Tree.Kind, Integer> RULED_OUT = new EnumMap<>(Tree.Kind.class);

    static {
        ruleOut(1, Tree.Kind.PACKAGE);
        ruleOut(2, Tree.Kind.STRING_LITERAL, Tree.Kind.FLOAT_LITERAL, Tree.Kind.DOUBLE_LITERAL);
        ruleOut(3, Tree.Kind.IMPORT, Tree.Kind.ANNOTATION);
        ruleOut(4, Tree.Kind.NEW_CLASS, Tree.Kind.NULL_LITERAL);
        ruleOut(6, Tree.Kind.THROW, Tree.Kind.TRY, Tree.Kind.SYNCHRONIZED, Tree.Kind.ASSERT, Tree.Kind.INSTANCE_OF,
            Tree.Kind.LAMBDA_EXPRESSION, Tree.Kind.MEMBER_REFERENCE);
    }

    private final CompilationUnitTree unit;
    private final SourcePositions positions;
    private final Map<String, Set<String>> calls = new HashMap<>();
    private final Map<String, Integer> depths = new HashMap<>();
    private Set<String> callsOfMethod = new HashSet<>();
    private boolean isInMethod = false;
    private boolean isInArguments = false;

    private LanguageTest(CompilationUnitTree unit, SourcePositions positions) {
        this.unit = unit;
        this.positions = positions;
    }

    public static void main(String[] args) throws Exception {
        JavaCompiler compiler = ToolProvider.getSystemJavaCompiler();
        try (StandardJavaFileManager files = compiler.getStandardFileManager(null, null, null)) {
            JavacTask task = (JavacTask) compiler.getTask(null, files, null, null, null, files.getJavaFileObjects(PROGRAM));
            CompilationUnitTree unit = task.parse().iterator().next();
            LanguageTest test = new LanguageTest(unit, Trees.instance(task).getSourcePositions());
            Checks.due("classes in the file", unit.getTypeDecls().size(), 1);
            test.scan(unit, null);
            test.callsStayShallow();
        }
        Checks.end();
    }

    @Override
    public Void scan(Tree tree, Void nothing) {
        if (tree != null && RULED_OUT.containsKey(tree.getKind())) {
            rule(RULED_OUT.get(tree.getKind()), "no " + tree.getKind(), tree, false);
        }
        return super.scan(tree, nothing);
    }

    @Override
    public Void visitClass(ClassTree tree, Void nothing) {
        for (Tree member : tree.getMembers()) {
            boolean isField = member instanceof VariableTree;
            rule(1, "fields and methods alone", member, isField || member instanceof MethodTree);
        }
        return super.visitClass(tree, nothing);
    }

    @Override
    public Void visitVariable(VariableTree tree, Void nothing) {
        boolean isArray = tree.getType() instanceof ArrayTypeTree;
        Tree type = isArray ? ((ArrayTypeTree) tree.getType()).getType() : tree.getType();
        rule(2, tree.getName() + " is a number, a boolean or an array of these", tree, isPlain(type));
        if (isArray) {
            rule(4, tree.getName() + " is a field", tree, !isInMethod);
            rule(4, tree.getName() + " can't be assigned again", tree, tree.getModifiers().getFlags().contains(Modifier.FINAL));
            rule(4, tree.getName() + " is made at once", tree, tree.getInitializer() instanceof NewArrayTree);
        }
        return super.visitVariable(tree, nothing);
    }

    @Override
    public Void visitNewArray(NewArrayTree tree, Void nothing) {
        rule(4, "an array is made in a field's initialiser", tree, !isInMethod);
        boolean hasOneLength = tree.getDimensions().size() == 1 && tree.getInitializers() == null;
        rule(4, "an array has one length", tree, hasOneLength);
        ExpressionTree length = hasOneLength ? tree.getDimensions().get(0) : null;
        rule(4, "the length is a literal or a constant", tree, length instanceof LiteralTree || length instanceof IdentifierTree);
        return super.visitNewArray(tree, nothing);
    }

    @Override
    public Void visitMethod(MethodTree tree, Void nothing) {
        Tree type = tree.getReturnType();
        rule(2, tree.getName() + " answers a number or a boolean, if anything", tree, type == null || isPlainOrVoid(type));
        boolean isSynchronized = tree.getModifiers().getFlags().contains(Modifier.SYNCHRONIZED);
        rule(6, tree.getName() + " is not synchronized", tree, !isSynchronized);
        LineMap lines = unit.getLineMap();
        long first = lines.getLineNumber(positions.getStartPosition(unit, tree));
        long last = lines.getLineNumber(positions.getEndPosition(unit, tree));
        rule(10, tree.getName() + " is short", tree, last - first < MOST_LINES);
        callsOfMethod = calls.computeIfAbsent(tree.getName().toString(), name -> new HashSet<>());
        isInMethod = true;
        super.visitMethod(tree, nothing);
        isInMethod = false;
        return null;
    }

    @Override
    public Void visitMethodInvocation(MethodInvocationTree tree, Void nothing) {
        rule(10, "no call inside the arguments of another", tree, !isInArguments);
        callsOfMethod.add(tree.getMethodSelect().toString());
        isInArguments = true;
        super.visitMethodInvocation(tree, nothing);
        isInArguments = false;
        return null;
    }

    @Override
    public Void visitMemberSelect(MemberSelectTree tree, Void nothing) {
        rule(3, "nothing of a library class", tree, tree.getIdentifier().contentEquals("length"));
        return super.visitMemberSelect(tree, nothing);
    }

    @Override
    public Void visitTypeCast(TypeCastTree tree, Void nothing) {
        rule(6, "no cast of a reference", tree, isPlain(tree.getType()));
        return super.visitTypeCast(tree, nothing);
    }

    @Override
    public Void visitForLoop(ForLoopTree tree, Void nothing) {
        endIsSeen(tree, tree.getCondition());
        return super.visitForLoop(tree, nothing);
    }

    @Override
    public Void visitWhileLoop(WhileLoopTree tree, Void nothing) {
        endIsSeen(tree, tree.getCondition());
        return super.visitWhileLoop(tree, nothing);
    }

    @Override
    public Void visitDoWhileLoop(DoWhileLoopTree tree, Void nothing) {
        endIsSeen(tree, tree.getCondition());
        return super.visitDoWhileLoop(tree, nothing);
    }

    private void endIsSeen(Tree loop, ExpressionTree condition) {
        ExpressionTree bare = condition instanceof ParenthesizedTree ? ((ParenthesizedTree) condition).getExpression() : condition;
        boolean isCompared = bare != null && EnumSet.of(Tree.Kind.LESS_THAN, Tree.Kind.LESS_THAN_EQUAL).contains(bare.getKind());
        rule(8, "a loop counts against a bound", loop, isCompared);
    }

    private void callsStayShallow() {
        for (String method : calls.keySet()) {
            Set<String> called = calls.get(method);
            Checks.holds("rule 3: " + method + " calls methods of the class alone", calls.keySet().containsAll(called));
            int depth = depthOf(method, List.of());
            Checks.holds("rule 10: calls from " + method + " go at most six deep, not " + depth, depth <= MOST_DEEP);
        }
    }

    /** How many methods stand in the longest chain of calls that begins with this one. */
    private int depthOf(String method, List<String> callers) {
        if (callers.contains(method)) {
            Checks.holds("rule 8: " + method + " does not call itself, over " + callers, false);
            return 0;
        }
        if (depths.containsKey(method)) return depths.get(method);
        int below = 0;
        List<String> chain = new ArrayList<>(callers);
        chain.add(method);
        for (String called : calls.getOrDefault(method, Set.of())) below = Math.max(below, depthOf(called, chain));
        depths.put(method, below + 1);
        return below + 1;
    }

    private static void ruleOut(int rule, Tree.Kind... kinds) {
        for (Tree.Kind kind : kinds) RULED_OUT.put(kind, rule);
    }

    private static boolean isPlain(Tree type) {
        if (!(type instanceof PrimitiveTypeTree)) return false;
        TypeKind kind = ((PrimitiveTypeTree) type).getPrimitiveTypeKind();
        return kind != TypeKind.FLOAT && kind != TypeKind.DOUBLE && kind != TypeKind.VOID;
    }

    private static boolean isPlainOrVoid(Tree type) {
        return type instanceof PrimitiveTypeTree
            && (((PrimitiveTypeTree) type).getPrimitiveTypeKind() == TypeKind.VOID || isPlain(type));
    }

    private void rule(int number, String words, Tree where, boolean isKept) {
        long line = unit.getLineMap().getLineNumber(Math.max(0, positions.getStartPosition(unit, where)));
        Checks.holds("rule " + number + ", line " + line + ": " + words, isKept);
    }
}
