import com.sun.source.tree.*;
import com.sun.source.util.JavacTask;
import com.sun.source.util.TreePath;
import com.sun.source.util.TreePathScanner;
import com.sun.source.util.TreeScanner;
import com.sun.source.util.Trees;
import java.io.IOException;
import java.net.URI;
import java.util.ArrayList;
import java.util.List;
import java.util.Set;
import javax.lang.model.element.Element;
import javax.lang.model.element.ElementKind;
import javax.lang.model.element.Modifier;
import javax.lang.model.element.VariableElement;
import javax.lang.model.type.ArrayType;
import javax.lang.model.type.TypeKind;
import javax.lang.model.type.TypeMirror;
import javax.tools.JavaFileObject;
import javax.tools.SimpleJavaFileObject;
import javax.tools.ToolProvider;

/**
 * Rules of LANGUAGE.md, measured on the compiler's own tree of a source. The class keeps to less than
 * some rules leave (no lists, no null, nothing made by a call, casts to numbers alone), and that less is measured.
 */
final class Rules extends TreePathScanner<Void, Void> {
    private static final int MOST_LINES = 60, MOST_PARAMETERS = 7, MOST_CLASSES = 12, MOST_FIELDS = 20, MOST_DEEP = 8;
    private static final String FACE = "KilnCourses";
    private static final Set<String> LIBRARY = Set.of(
        "String.length", "String.charAt", "Math.max", "Math.min", "System.arraycopy", "Object.<init>");
    private static final Set<TypeKind> NUMBERS = Set.of(TypeKind.INT, TypeKind.LONG, TypeKind.SHORT, TypeKind.BYTE, TypeKind.CHAR);
    private static final Set<String> STATIC_TYPES = Set.of("int", "long", "boolean", "char", "java.lang.String");
    private static final Set<String> STATIC_ROWS = Set.of("int[]", "long[]", "char[]", "byte[]");
    private static final Set<Tree.Kind> RULED_OUT = Set.of(
        Tree.Kind.THROW, Tree.Kind.TRY, Tree.Kind.SYNCHRONIZED, Tree.Kind.ASSERT);
    private static final Set<Tree.Kind> FUNCTIONS = Set.of(Tree.Kind.LAMBDA_EXPRESSION, Tree.Kind.MEMBER_REFERENCE);
    private static final Set<Tree.Kind> COMPARED = Set.of(
        Tree.Kind.LESS_THAN, Tree.Kind.LESS_THAN_EQUAL, Tree.Kind.GREATER_THAN, Tree.Kind.GREATER_THAN_EQUAL);
    private static final Set<Tree.Kind> COUNTED = Set.of(
        Tree.Kind.POSTFIX_INCREMENT, Tree.Kind.POSTFIX_DECREMENT, Tree.Kind.PREFIX_INCREMENT, Tree.Kind.PREFIX_DECREMENT);

    private final Trees trees;
    private final CompilationUnitTree unit;
    private final Calls calls = new Calls();
    private final List<String> broken = new ArrayList<>();
    private int classes = 0;

    private Rules(Trees trees, CompilationUnitTree unit) {
        this.trees = trees;
        this.unit = unit;
    }

    static Rules of(String source) throws IOException {
        JavaFileObject file = new SimpleJavaFileObject(URI.create("string:///" + FACE + ".java"), JavaFileObject.Kind.SOURCE) {
            @Override
            public CharSequence getCharContent(boolean ignoreEncodingErrors) {
                return source;
            }
        };
        JavacTask task = (JavacTask) ToolProvider.getSystemJavaCompiler().getTask(null, null, null, List.of("-proc:none"), null, List.of(file));
        CompilationUnitTree unit = task.parse().iterator().next();
        task.analyze();
        Rules rules = new Rules(Trees.instance(task), unit);
        rules.scan(unit, null);
        rules.measureCalls();
        return rules;
    }

    /** What breaks a rule, each with the rule's number ahead. */
    List<String> broken() {
        return broken;
    }

    List<String> longestRow() {
        return calls.longestRow();
    }

    Set<String> callingThemselves() {
        return calls.callingThemselves();
    }

    private void breaks(int rule, String what, Tree at) {
        long line = unit.getLineMap().getLineNumber(trees.getSourcePositions().getStartPosition(unit, at));
        broken.add(rule + ": " + what + ", line " + line);
    }

    private void measureCalls() {
        int deep = calls.longestRow().size();
        if (deep > MOST_DEEP) {
            broken.add("11: calls go " + deep + " deep: " + calls.longestRow());
        }
        for (String ring : calls.rings()) {
            broken.add("8: methods in a ring: " + ring);
        }
        if (classes > MOST_CLASSES) {
            broken.add("11: " + classes + " classes");
        }
    }

    @Override
    public Void scan(Tree tree, Void none) {
        if (tree != null && RULED_OUT.contains(tree.getKind())) {
            breaks(6, "a " + tree.getKind(), tree);
        }
        if (tree != null && FUNCTIONS.contains(tree.getKind())) {
            breaks(2, "a " + tree.getKind(), tree);
        }
        if (tree != null && tree.getKind() == Tree.Kind.NULL_LITERAL) {
            breaks(7, "a null", tree);
        }
        return super.scan(tree, none);
    }

    @Override
    public Void visitImport(ImportTree tree, Void none) {
        breaks(4, "an import", tree);
        return super.visitImport(tree, none);
    }

    @Override
    public Void visitPackage(PackageTree tree, Void none) {
        breaks(1, "a package", tree);
        return super.visitPackage(tree, none);
    }

    // ---- classes, fields

    @Override
    public Void visitClass(ClassTree tree, Void none) {
        classes++;
        Tree around = getCurrentPath().getParentPath().getLeaf();
        boolean isOutermost = around.getKind() == Tree.Kind.COMPILATION_UNIT;
        if (!isOutermost && !(around instanceof ClassTree)) {
            breaks(2, "a class in a method", tree);
        } else if (!isOutermost && !tree.getModifiers().getFlags().contains(Modifier.STATIC)) {
            breaks(2, "a class that isn't static", tree);
        }
        int fields = 0;
        for (Tree member : tree.getMembers()) {
            if (member instanceof VariableTree field) {
                if (field.getModifiers().getFlags().contains(Modifier.STATIC)) {
                    measureStatic(field);
                } else {
                    fields++;
                }
            } else if (member instanceof BlockTree) {
                breaks(5, "an initialiser block", member);
            }
        }
        if (fields > MOST_FIELDS) {
            breaks(11, fields + " fields", tree);
        }
        return super.visitClass(tree, none);
    }

    private void measureStatic(VariableTree field) {
        if (!field.getModifiers().getFlags().contains(Modifier.FINAL)) {
            breaks(5, "a static field that isn't final", field);
        }
        String type = typeOf(new TreePath(getCurrentPath(), field)).toString();
        boolean isRow = STATIC_ROWS.contains(type) && field.getInitializer() instanceof NewArrayTree row && row.getInitializers() != null;
        if (!STATIC_TYPES.contains(type) && !isRow) {
            breaks(5, "a static field of type " + type, field);
        }
    }

    @Override
    public Void visitVariable(VariableTree tree, Void none) {
        measureType(typeOf(getCurrentPath()), tree);
        return super.visitVariable(tree, none);
    }

    private void measureType(TypeMirror type, Tree at) {
        if (type == null || !isAllowed(type, false)) {
            breaks(3, "a type " + type, at);
        }
    }

    private boolean isAllowed(TypeMirror type, boolean isItem) {
        if (NUMBERS.contains(type.getKind()) || type.getKind() == TypeKind.BOOLEAN) {
            return true;
        }
        if (type instanceof ArrayType row) {
            return isItem ? NUMBERS.contains(row.getComponentType().getKind()) : isAllowed(row.getComponentType(), true);
        }
        return isOwn(type) || !isItem && type.toString().equals("java.lang.String");
    }

    private static boolean isOwn(TypeMirror type) {
        return type.toString().equals(FACE) || type.toString().startsWith(FACE + ".");
    }

    // ---- methods, calls

    @Override
    public Void visitMethod(MethodTree tree, Void none) {
        if (tree.getParameters().size() > MOST_PARAMETERS) {
            breaks(11, tree.getParameters().size() + " parameters", tree);
        }
        if (!tree.getThrows().isEmpty()) {
            breaks(6, "a throws", tree);
        }
        if (tree.getReturnType() != null) {
            TypeMirror type = typeOf(new TreePath(getCurrentPath(), tree.getReturnType()));
            if (type.getKind() != TypeKind.VOID) {
                measureType(type, tree);
            }
        }
        if (tree.getBody() != null) {
            long lines = lineOf(trees.getSourcePositions().getEndPosition(unit, tree)) - lineOf(trees.getSourcePositions().getStartPosition(unit, tree)) + 1;
            if (lines > MOST_LINES) {
                breaks(11, lines + " lines", tree);
            }
        }
        return super.visitMethod(tree, none);
    }

    private long lineOf(long position) {
        return unit.getLineMap().getLineNumber(position);
    }

    @Override
    public Void visitMethodInvocation(MethodInvocationTree tree, Void none) {
        noteCall(tree);
        return super.visitMethodInvocation(tree, none);
    }

    @Override
    public Void visitNewClass(NewClassTree tree, Void none) {
        noteCall(tree);
        measureMaking(tree);
        return super.visitNewClass(tree, none);
    }

    @Override
    public Void visitNewArray(NewArrayTree tree, Void none) {
        measureMaking(tree);
        return super.visitNewArray(tree, none);
    }

    private void measureMaking(Tree tree) {
        if (!methodAround().endsWith(".<init>")) {
            breaks(12, "something made by " + methodAround(), tree);
        }
    }

    private void noteCall(Tree tree) {
        Element called = trees.getElement(getCurrentPath());
        if (called == null) {
            breaks(4, "a call that isn't known", tree);
            return;
        }
        String name = called.getEnclosingElement().getSimpleName() + "." + called.getSimpleName();
        if (outermostOf(called).equals(FACE)) {
            calls.add(methodAround(), name);
        } else if (!LIBRARY.contains(name)) {
            breaks(4, "a call of " + name, tree);
        }
    }

    private static String outermostOf(Element element) {
        Element at = element;
        while (at.getEnclosingElement() != null && at.getEnclosingElement().getKind() != ElementKind.PACKAGE) {
            at = at.getEnclosingElement();
        }
        return at.getSimpleName().toString();
    }

    /** What a field begins with is made by the constructor. */
    private String methodAround() {
        String method = "<init>";
        for (TreePath path = getCurrentPath(); path != null; path = path.getParentPath()) {
            if (path.getLeaf() instanceof MethodTree tree) {
                method = tree.getName().toString();
            }
            if (path.getLeaf() instanceof ClassTree tree) {
                return tree.getSimpleName() + "." + method;
            }
        }
        return method;
    }

    // ---- what is reckoned

    @Override
    public Void visitTypeCast(TypeCastTree tree, Void none) {
        TypeMirror type = typeOf(new TreePath(getCurrentPath(), tree.getType()));
        if (!NUMBERS.contains(type.getKind())) {
            breaks(6, "a cast to " + type, tree);
        }
        return super.visitTypeCast(tree, none);
    }

    @Override
    public Void visitBinary(BinaryTree tree, Void none) {
        boolean isText = isText(tree.getLeftOperand()) || isText(tree.getRightOperand());
        if (tree.getKind() == Tree.Kind.PLUS && isText) {
            breaks(10, "texts joined by +", tree);
        }
        if ((tree.getKind() == Tree.Kind.EQUAL_TO || tree.getKind() == Tree.Kind.NOT_EQUAL_TO) && isText) {
            breaks(6, "texts compared by " + tree.getKind(), tree);
        }
        if ((tree.getKind() == Tree.Kind.DIVIDE || tree.getKind() == Tree.Kind.REMAINDER) && !isSafeDivisor(tree.getRightOperand())) {
            breaks(7, "a divisor that isn't looked at", tree);
        }
        return super.visitBinary(tree, none);
    }

    @Override
    public Void visitCompoundAssignment(CompoundAssignmentTree tree, Void none) {
        boolean divides = tree.getKind() == Tree.Kind.DIVIDE_ASSIGNMENT || tree.getKind() == Tree.Kind.REMAINDER_ASSIGNMENT;
        if (divides && !isSafeDivisor(tree.getExpression())) {
            breaks(7, "a divisor that isn't looked at", tree);
        }
        measureTarget(tree.getVariable());
        return super.visitCompoundAssignment(tree, none);
    }

    @Override
    public Void visitAssignment(AssignmentTree tree, Void none) {
        measureTarget(tree.getVariable());
        return super.visitAssignment(tree, none);
    }

    private void measureTarget(ExpressionTree target) {
        if (target instanceof ArrayAccessTree item && elementOf(item.getExpression()) instanceof VariableElement row
            && row.getModifiers().contains(Modifier.STATIC)) {
            breaks(5, "a static row that is changed", target);
        }
    }

    private boolean isText(ExpressionTree tree) {
        TypeMirror type = typeOf(TreePath.getPath(unit, tree));
        return type != null && type.toString().equals("java.lang.String");
    }

    /** A constant that isn't 0, or a name within the if that has found it above 0. */
    private boolean isSafeDivisor(ExpressionTree divisor) {
        if (divisor instanceof LiteralTree literal) {
            return literal.getValue() instanceof Number n && n.longValue() != 0;
        }
        if (elementOf(divisor) instanceof VariableElement v && v.getConstantValue() instanceof Number n) {
            return n.longValue() != 0;
        }
        TreePath below = getCurrentPath();
        for (TreePath path = below.getParentPath(); path != null; path = path.getParentPath()) {
            if (path.getLeaf() instanceof IfTree tree && tree.getThenStatement() == below.getLeaf()
                && tree.getCondition().toString().equals("(" + divisor + " > 0)")) {
                return true;
            }
            below = path;
        }
        return false;
    }

    // ---- loops

    @Override
    public Void visitForLoop(ForLoopTree tree, Void none) {
        String counter = tree.getInitializer().size() == 1 && tree.getInitializer().get(0) instanceof VariableTree v ? v.getName().toString() : "";
        boolean goesOn = tree.getUpdate().size() == 1 && tree.getUpdate().get(0).getExpression() instanceof UnaryTree update
            && COUNTED.contains(update.getKind()) && update.getExpression().toString().equals(counter);
        if (counter.isEmpty() || !goesOn || !isBoundOf(tree.getCondition(), counter) || changes(tree.getStatement(), counter) != 0) {
            breaks(9, "a for without a counter against a bound", tree);
        }
        return super.visitForLoop(tree, none);
    }

    /** Of the form while (i &lt; bound &amp;&amp; ..) { i++; }. */
    @Override
    public Void visitWhileLoop(WhileLoopTree tree, Void none) {
        ExpressionTree bound = firstOf(((ParenthesizedTree) tree.getCondition()).getExpression());
        String counter = bound instanceof BinaryTree compared ? compared.getLeftOperand().toString() : "";
        if (!isBoundOf(bound, counter) || changes(tree.getStatement(), counter) != 1) {
            breaks(9, "a while without a counter against a bound", tree);
        }
        return super.visitWhileLoop(tree, none);
    }

    @Override
    public Void visitDoWhileLoop(DoWhileLoopTree tree, Void none) {
        breaks(9, "a do, whose end isn't measured", tree);
        return super.visitDoWhileLoop(tree, none);
    }

    private static ExpressionTree firstOf(ExpressionTree condition) {
        ExpressionTree at = condition;
        while (at instanceof BinaryTree both && both.getKind() == Tree.Kind.CONDITIONAL_AND) {
            at = both.getLeftOperand();
        }
        return at;
    }

    private static boolean isBoundOf(ExpressionTree condition, String counter) {
        return condition != null && firstOf(condition) instanceof BinaryTree compared && COMPARED.contains(compared.getKind())
            && compared.getLeftOperand().toString().equals(counter);
    }

    private static int changes(Tree body, String counter) {
        int[] seen = {0};
        new TreeScanner<Void, Void>() {
            @Override
            public Void visitUnary(UnaryTree tree, Void none) {
                seen[0] += COUNTED.contains(tree.getKind()) && tree.getExpression().toString().equals(counter) ? 1 : 0;
                return super.visitUnary(tree, none);
            }

            @Override
            public Void visitAssignment(AssignmentTree tree, Void none) {
                seen[0] += tree.getVariable().toString().equals(counter) ? 2 : 0;
                return super.visitAssignment(tree, none);
            }

            @Override
            public Void visitCompoundAssignment(CompoundAssignmentTree tree, Void none) {
                seen[0] += tree.getVariable().toString().equals(counter) ? 2 : 0;
                return super.visitCompoundAssignment(tree, none);
            }
        }.scan(body, null);
        return seen[0];
    }

    private TypeMirror typeOf(TreePath path) {
        return path == null ? null : trees.getTypeMirror(path);
    }

    private Element elementOf(ExpressionTree tree) {
        TreePath path = TreePath.getPath(unit, tree);
        return path == null ? null : trees.getElement(path);
    }
}
