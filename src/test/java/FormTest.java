import com.sun.source.tree.ArrayTypeTree;
import com.sun.source.tree.AssignmentTree;
import com.sun.source.tree.BinaryTree;
import com.sun.source.tree.BlockTree;
import com.sun.source.tree.ClassTree;
import com.sun.source.tree.CompilationUnitTree;
import com.sun.source.tree.CompoundAssignmentTree;
import com.sun.source.tree.ExpressionTree;
import com.sun.source.tree.ForLoopTree;
import com.sun.source.tree.IdentifierTree;
import com.sun.source.tree.LiteralTree;
import com.sun.source.tree.MemberSelectTree;
import com.sun.source.tree.MethodInvocationTree;
import com.sun.source.tree.MethodTree;
import com.sun.source.tree.NewArrayTree;
import com.sun.source.tree.NewClassTree;
import com.sun.source.tree.PrimitiveTypeTree;
import com.sun.source.tree.ThrowTree;
import com.sun.source.tree.Tree;
import com.sun.source.tree.TypeCastTree;
import com.sun.source.tree.UnaryTree;
import com.sun.source.tree.VariableTree;
import com.sun.source.util.JavacTask;
import com.sun.source.util.SourcePositions;
import com.sun.source.util.TreeScanner;
import com.sun.source.util.Trees;
import java.io.IOException;
import java.nio.file.Path;
import java.util.List;
import java.util.Map;
import java.util.Set;
import java.util.TreeMap;
import java.util.TreeSet;
import javax.lang.model.element.Modifier;
import javax.lang.model.type.TypeKind;
import javax.tools.JavaCompiler;
import javax.tools.StandardJavaFileManager;
import javax.tools.ToolProvider;

/**
 * The rules of ../shared/LANGUAGE.md, as far as the tree of the source shows them; FaceTest looks at
 * rule 1. The class does with less than the rules leave (no try, no while, no floating numbers, ..),
 * and is held to that here, for what it does without needs no closer look.
 */
public final class FormTest extends TreeScanner<Void, Void> {
    private static final Path SOURCE = Path.of("src/main/java/ShopLedger.java");
    private static final Set<String> EXCEPTIONS = Set.of("IllegalStateException", "IllegalArgumentException",
        "IndexOutOfBoundsException", "UnsupportedOperationException");
    /** Each with the rule that says how it may be used, if at all. */
    private static final Map<Tree.Kind, Integer> UNUSED = Map.of(
        Tree.Kind.LAMBDA_EXPRESSION, 2, Tree.Kind.MEMBER_REFERENCE, 2, Tree.Kind.TRY, 6, Tree.Kind.SYNCHRONIZED, 6,
        Tree.Kind.ASSERT, 6, Tree.Kind.INSTANCE_OF, 6, Tree.Kind.WHILE_LOOP, 9, Tree.Kind.DO_WHILE_LOOP, 9);
    private static final String CONSTRUCTOR = "<init>";
    private static final String BETWEEN_METHODS = "<fields>";
    private static final String LIBRARY = "Math";
    private static final Set<String> LIBRARY_CALLS = Set.of("min", "max", "abs");
    private static final int MOST_CLASSES = 12;
    private static final int MOST_FIELDS = 20;
    private static final int MOST_PARAMETERS = 7;
    private static final int MOST_LINES = 60;
    private static final int MOST_DEPTH = 8;

    private final CompilationUnitTree unit;
    private final SourcePositions positions;
    /** Of each method's name the names that it calls; those of one name in two classes are one here. */
    private final Map<String, Set<String>> calls = new TreeMap<>();
    private int classes = 0;
    /** Null between methods, where fields are made. */
    private MethodTree method;
    private boolean inThrow = false;

    private FormTest(CompilationUnitTree unit, SourcePositions positions) {
        this.unit = unit;
        this.positions = positions;
    }

    public static void main(String[] args) throws IOException {
        JavaCompiler compiler = ToolProvider.getSystemJavaCompiler();
        try (StandardJavaFileManager files = compiler.getStandardFileManager(null, null, null)) {
            JavacTask task = (JavacTask) compiler.getTask(null, files, null, null, null,
                files.getJavaFileObjects(args.length == 0 ? SOURCE : Path.of(args[0])));
            SourcePositions positions = Trees.instance(task).getSourcePositions();
            for (CompilationUnitTree unit : task.parse()) {
                FormTest test = new FormTest(unit, positions);
                test.scan(unit, null);
                test.depths();
            }
        }
        Check.end("FormTest");
    }

    private void broken(int rule, Tree where, String text) {
        long line = unit.getLineMap().getLineNumber(positions.getStartPosition(unit, where));
        Check.fail("rule " + rule + ", line " + line + ": " + text);
    }

    @Override
    public Void scan(Tree node, Void p) {
        if (node != null && UNUSED.containsKey(node.getKind())) {
            broken(UNUSED.get(node.getKind()), node, "no " + node.getKind() + " is needed");
        }
        return super.scan(node, p);
    }

    @Override
    public Void visitCompilationUnit(CompilationUnitTree node, Void p) {
        if (node.getPackageName() != null || node.getTypeDecls().size() != 1) {
            broken(1, node, "one public class without a package line");
        }
        if (!node.getImports().isEmpty()) {
            broken(4, node, "no library is needed");
        }
        return super.visitCompilationUnit(node, p);
    }

    @Override
    public Void visitClass(ClassTree node, Void p) {
        classes++;
        if (classes > MOST_CLASSES) {
            broken(11, node, "too many classes");
        }
        if (method != null || node.getKind() != Tree.Kind.CLASS) {
            broken(2, node, "a local class, or no class");
        }
        Set<Modifier> modifiers = node.getModifiers().getFlags();
        if (classes > 1 && !modifiers.containsAll(Set.of(Modifier.PRIVATE, Modifier.STATIC))) {
            broken(1, node, "a class inside is private and static");
        }
        if (node.getMembers().stream().anyMatch(m -> m instanceof BlockTree)) {
            broken(5, node, "no initialiser block");
        }
        long fields = node.getMembers().stream()
            .filter(m -> m instanceof VariableTree v && !v.getModifiers().getFlags().contains(Modifier.STATIC)).count();
        if (fields > MOST_FIELDS) {
            broken(11, node, "too many fields");
        }
        return super.visitClass(node, p);
    }

    @Override
    public Void visitVariable(VariableTree node, Void p) {
        Set<Modifier> modifiers = node.getModifiers().getFlags();
        boolean number = node.getType() instanceof PrimitiveTypeTree t
            && (t.getPrimitiveTypeKind() == TypeKind.INT || t.getPrimitiveTypeKind() == TypeKind.LONG);
        if (modifiers.contains(Modifier.STATIC) && !(modifiers.contains(Modifier.FINAL) && number)) {
            broken(5, node, "a static field is a constant of int or long");
        }
        return super.visitVariable(node, p);
    }

    @Override
    public Void visitMethod(MethodTree node, Void p) {
        long first = unit.getLineMap().getLineNumber(positions.getStartPosition(unit, node));
        long last = unit.getLineMap().getLineNumber(positions.getEndPosition(unit, node) - 1);
        if (node.getParameters().size() > MOST_PARAMETERS || last - first >= MOST_LINES) {
            broken(11, node, "too many parameters or lines");
        }
        calls.putIfAbsent(node.getName().toString(), new TreeSet<>());
        method = node;
        super.visitMethod(node, p);
        method = null;
        return null;
    }

    @Override
    public Void visitMethodInvocation(MethodInvocationTree node, Void p) {
        ExpressionTree target = node.getMethodSelect();
        if (target instanceof IdentifierTree name) {
            called(name.getName().toString());
        } else if (target instanceof MemberSelectTree select) {
            String name = select.getIdentifier().toString();
            if (!select.getExpression().toString().equals(LIBRARY)) {
                called(name);
            } else if (!LIBRARY_CALLS.contains(name)) {
                broken(4, node, "not of the library's part that is needed: " + node);
            }
        }
        return super.visitMethodInvocation(node, p);
    }

    private void called(String name) {
        String caller = method == null ? BETWEEN_METHODS : method.getName().toString();
        calls.computeIfAbsent(caller, k -> new TreeSet<>()).add(name);
    }

    /** What is called is a method of this file, calls itself by no way round, and goes not too deep. */
    private void depths() {
        for (Map.Entry<String, Set<String>> row : calls.entrySet()) {
            row.getValue().removeIf("super"::equals);
            for (String name : row.getValue()) {
                if (!calls.containsKey(name)) {
                    Check.fail("rule 4: " + row.getKey() + " calls " + name + ", which is not of this file");
                }
            }
        }
        for (String name : calls.keySet()) {
            if (depth(name, 0) > MOST_DEPTH) {
                Check.fail("rules 8 and 11: " + name + " calls itself or goes too deep");
            }
        }
    }

    private int depth(String name, int above) {
        int most = above + 1;
        if (above <= MOST_DEPTH) {
            for (String called : calls.getOrDefault(name, Set.of())) {
                most = Math.max(most, depth(called, above + 1));
            }
        }
        return most;
    }

    @Override
    public Void visitThrow(ThrowTree node, Void p) {
        if (method == null || method.getName().contentEquals(CONSTRUCTOR)) {
            broken(6, node, "no throw in a constructor");
        }
        if (!(node.getExpression() instanceof NewClassTree)) {
            broken(6, node, "what is thrown is made there");
        }
        inThrow = true;
        super.visitThrow(node, p);
        inThrow = false;
        return null;
    }

    @Override
    public Void visitNewClass(NewClassTree node, Void p) {
        if (!inThrow) {
            madeOnce(node);
        } else {
            List<? extends ExpressionTree> texts = node.getArguments();
            if (!EXCEPTIONS.contains(node.getIdentifier().toString()) || texts.size() > 1
                    || !texts.stream().allMatch(t -> t.getKind() == Tree.Kind.STRING_LITERAL)) {
                broken(6, node, "an exception of the document with a written text");
            }
        }
        return super.visitNewClass(node, p);
    }

    @Override
    public Void visitNewArray(NewArrayTree node, Void p) {
        madeOnce(node);
        return super.visitNewArray(node, p);
    }

    /** The document: "All memory is rows made once." */
    private void madeOnce(Tree node) {
        if (method != null && !method.getName().contentEquals(CONSTRUCTOR)) {
            broken(12, node, "made by a call, not with the object");
        }
    }

    /** A counter from a number up to a bound, which nothing in the loop moves but the count itself. */
    @Override
    public Void visitForLoop(ForLoopTree node, Void p) {
        boolean counts = node.getInitializer().size() == 1 && node.getUpdate().size() == 1
            && node.getInitializer().get(0) instanceof VariableTree v
            && node.getCondition() instanceof BinaryTree b && b.getKind() == Tree.Kind.LESS_THAN
            && b.getLeftOperand().toString().equals(v.getName().toString())
            && node.getUpdate().get(0).getExpression().toString().equals(v.getName() + "++")
            && !moves(node.getStatement(), v.getName().toString())
            && !moves(node.getStatement(), b.getRightOperand().toString());
        if (!counts) {
            broken(9, node, "a loop counts up to a bound");
        }
        return super.visitForLoop(node, p);
    }

    private static boolean moves(Tree body, String name) {
        boolean[] moved = {false};
        new TreeScanner<Void, Void>() {
            @Override
            public Void visitAssignment(AssignmentTree node, Void p) {
                moved[0] |= node.getVariable().toString().equals(name);
                return super.visitAssignment(node, p);
            }

            @Override
            public Void visitCompoundAssignment(CompoundAssignmentTree node, Void p) {
                moved[0] |= node.getVariable().toString().equals(name);
                return super.visitCompoundAssignment(node, p);
            }

            @Override
            public Void visitUnary(UnaryTree node, Void p) {
                moved[0] |= !Set.of(Tree.Kind.UNARY_MINUS, Tree.Kind.LOGICAL_COMPLEMENT).contains(node.getKind())
                    && node.getExpression().toString().equals(name);
                return super.visitUnary(node, p);
            }
        }.scan(body, null);
        return moved[0];
    }

    @Override
    public Void visitPrimitiveType(PrimitiveTypeTree node, Void p) {
        if (Set.of(TypeKind.DOUBLE, TypeKind.FLOAT).contains(node.getPrimitiveTypeKind())) {
            broken(3, node, "no floating numbers are needed");
        }
        return super.visitPrimitiveType(node, p);
    }

    @Override
    public Void visitArrayType(ArrayTypeTree node, Void p) {
        if (node.getType() instanceof ArrayTypeTree) {
            broken(3, node, "a row has one dimension");
        }
        return super.visitArrayType(node, p);
    }

    @Override
    public Void visitLiteral(LiteralTree node, Void p) {
        if (node.getKind() == Tree.Kind.STRING_LITERAL && !inThrow) {
            broken(10, node, "no texts are needed but those of exceptions");
        }
        return super.visitLiteral(node, p);
    }

    @Override
    public Void visitTypeCast(TypeCastTree node, Void p) {
        if (!(node.getType() instanceof PrimitiveTypeTree)) {
            broken(6, node, "no cast among classes is needed");
        }
        return super.visitTypeCast(node, p);
    }
}
