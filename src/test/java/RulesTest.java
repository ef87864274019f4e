import com.sun.source.tree.ArrayAccessTree;
import com.sun.source.tree.ArrayTypeTree;
import com.sun.source.tree.AssertTree;
import com.sun.source.tree.AssignmentTree;
import com.sun.source.tree.BinaryTree;
import com.sun.source.tree.ClassTree;
import com.sun.source.tree.CompilationUnitTree;
import com.sun.source.tree.CompoundAssignmentTree;
import com.sun.source.tree.DoWhileLoopTree;
import com.sun.source.tree.ExpressionTree;
import com.sun.source.tree.ForLoopTree;
import com.sun.source.tree.IdentifierTree;
import com.sun.source.tree.InstanceOfTree;
import com.sun.source.tree.LambdaExpressionTree;
import com.sun.source.tree.LiteralTree;
import com.sun.source.tree.MemberReferenceTree;
import com.sun.source.tree.MemberSelectTree;
import com.sun.source.tree.MethodInvocationTree;
import com.sun.source.tree.MethodTree;
import com.sun.source.tree.NewArrayTree;
import com.sun.source.tree.NewClassTree;
import com.sun.source.tree.ParenthesizedTree;
import com.sun.source.tree.SwitchTree;
import com.sun.source.tree.SynchronizedTree;
import com.sun.source.tree.ThrowTree;
import com.sun.source.tree.Tree;
import com.sun.source.tree.TryTree;
import com.sun.source.tree.TypeCastTree;
import com.sun.source.tree.VariableTree;
import com.sun.source.tree.WhileLoopTree;
import com.sun.source.util.JavacTask;
import com.sun.source.util.TreePath;
import com.sun.source.util.TreePathScanner;
import com.sun.source.util.Trees;
import java.io.IOException;
import java.nio.file.Path;
import java.util.HashMap;
import java.util.HashSet;
import java.util.List;
import java.util.Map;
import java.util.Set;
import javax.lang.model.element.Element;
import javax.lang.model.element.ElementKind;
import javax.lang.model.element.ExecutableElement;
import javax.lang.model.element.Modifier;
import javax.lang.model.element.VariableElement;
import javax.lang.model.type.ArrayType;
import javax.lang.model.type.TypeKind;
import javax.lang.model.type.TypeMirror;
import javax.tools.JavaCompiler;
import javax.tools.StandardJavaFileManager;
import javax.tools.ToolProvider;

/** Those rules of ../shared/LANGUAGE.md that can be told from the tree that javac makes of the file. */
public final class RulesTest extends TreePathScanner<Void, Void> {
    private static final Path FILE = Path.of("src/main/java/FlippedBlinds.java");
    private static final int MOST_DEEP = 8;
    private static final int MOST_PARAMETERS = 7;
    private static final int MOST_LINES = 60;
    private static final Set<String> LIBRARY_CLASSES = Set.of("java.lang.Integer", "java.lang.Long", "java.lang.Math");
    private static final Set<String> LIBRARY_METHODS = Set.of("java.lang.System.arraycopy", "java.util.Arrays.copyOf",
        "java.util.Arrays.copyOfRange", "java.util.Arrays.fill", "java.lang.Object.<init>");

    private final Checks checks = new Checks("RulesTest");
    private final Map<Element, Set<Element>> calls = new HashMap<>();
    private CompilationUnitTree unit;
    private Trees trees;
    private ExecutableElement method;

    public static void main(String[] args) throws IOException {
        new RulesTest().run();
    }

    private void run() throws IOException {
        JavaCompiler compiler = ToolProvider.getSystemJavaCompiler();
        try (StandardJavaFileManager files = compiler.getStandardFileManager(null, null, null)) {
            List<String> options = List.of("-proc:none");
            JavacTask task = (JavacTask) compiler.getTask(null, files, null, options, null,
                files.getJavaFileObjects(FILE));
            unit = task.parse().iterator().next();
            task.analyze();
            trees = Trees.instance(task);
            scan(unit, null);
        }
        checks.holds("methods were seen", calls.size() > 20);
        for (Element start : calls.keySet()) {
            int deep = depth(start, new HashSet<>());
            checks.holds("rules 8 and 11: " + start + " calls " + deep + " deep", deep <= MOST_DEEP);
        }
        checks.end();
    }

    /** How deep the calls of a method go, itself counted; far too deep if it comes to call itself. */
    private int depth(Element start, Set<Element> above) {
        if (above.contains(start)) {
            return 1000;
        }
        above.add(start);
        int deepest = 0;
        for (Element called : calls.getOrDefault(start, Set.of())) {
            deepest = Math.max(deepest, depth(called, above));
        }
        above.remove(start);
        return deepest + 1;
    }

    private long line(Tree tree) {
        return unit.getLineMap().getLineNumber(trees.getSourcePositions().getStartPosition(unit, tree));
    }

    private long lastLine(Tree tree) {
        return unit.getLineMap().getLineNumber(trees.getSourcePositions().getEndPosition(unit, tree));
    }

    private void rule(int number, String what, Tree tree, boolean kept) {
        checks.holds("rule " + number + ", line " + line(tree) + ": " + what, kept);
    }

    private Element elementOf(Tree part) {
        return trees.getElement(new TreePath(getCurrentPath(), part));
    }

    private TypeMirror typeOf(Tree part) {
        return trees.getTypeMirror(new TreePath(getCurrentPath(), part));
    }

    private static boolean isNumber(TypeMirror type) {
        return type.getKind().isPrimitive();
    }

    private static boolean isOwn(TypeMirror type) {
        return type.getKind() == TypeKind.DECLARED && type.toString().startsWith("FlippedBlinds");
    }

    private static boolean isConstant(Element element) {
        return element instanceof VariableElement && ((VariableElement) element).getConstantValue() != null;
    }

    private boolean isFixedNumber(ExpressionTree part) {
        Element element = elementOf(part);
        Object value = part instanceof LiteralTree ? ((LiteralTree) part).getValue()
            : isConstant(element) ? ((VariableElement) element).getConstantValue() : null;
        return value instanceof Number && ((Number) value).longValue() != 0;
    }

    private static boolean isWrittenOut(Tree made) {
        return made instanceof NewArrayTree && ((NewArrayTree) made).getInitializers() != null;
    }

    /** A static function over int and long, none that ends in Exact. */
    private static boolean isOverNumbers(Element called) {
        boolean numbers = called.getModifiers().contains(Modifier.STATIC)
            && !called.getSimpleName().toString().endsWith("Exact");
        for (VariableElement parameter : ((ExecutableElement) called).getParameters()) {
            TypeKind kind = parameter.asType().getKind();
            numbers = numbers && (kind == TypeKind.INT || kind == TypeKind.LONG);
        }
        return numbers;
    }

    @Override
    public Void visitClass(ClassTree tree, Void none) {
        boolean outer = getCurrentPath().getParentPath().getLeaf() == unit;
        boolean fixed = tree.getModifiers().getFlags().contains(Modifier.STATIC);
        rule(2, tree.getSimpleName() + " is a static class of the face's class", tree,
            outer || fixed && getCurrentPath().getParentPath().getParentPath().getLeaf() == unit);
        for (Tree member : tree.getMembers()) {
            rule(5, "no static initialiser", member, member.getKind() != Tree.Kind.BLOCK);
        }
        return super.visitClass(tree, none);
    }

    @Override
    public Void visitMethod(MethodTree tree, Void none) {
        method = (ExecutableElement) trees.getElement(getCurrentPath());
        calls.put(method, new HashSet<>());
        rule(11, tree.getName() + " takes at most seven", tree, tree.getParameters().size() <= MOST_PARAMETERS);
        // The constructors that javac adds have no end in the file.
        rule(11, tree.getName() + " is short", tree, lastLine(tree) - line(tree) < MOST_LINES);
        return super.visitMethod(tree, none);
    }

    @Override
    public Void visitVariable(VariableTree tree, Void none) {
        Element element = trees.getElement(getCurrentPath());
        TypeMirror type = element.asType();
        boolean flat = type.getKind() == TypeKind.ARRAY;
        TypeMirror one = flat ? ((ArrayType) type).getComponentType() : type;
        rule(3, tree.getName() + " is of a type that the rules list", tree, isNumber(one) || isOwn(one));
        if (element.getKind() == ElementKind.FIELD && element.getModifiers().contains(Modifier.STATIC)) {
            boolean written = flat && isWrittenOut(tree.getInitializer());
            rule(5, tree.getName() + " is a constant, or an array that is written out", tree,
                element.getModifiers().contains(Modifier.FINAL) && (isConstant(element) || written));
        }
        return super.visitVariable(tree, none);
    }

    @Override
    public Void visitArrayType(ArrayTypeTree tree, Void none) {
        rule(3, "an array of one dimension", tree, tree.getType().getKind() != Tree.Kind.ARRAY_TYPE);
        return super.visitArrayType(tree, none);
    }

    @Override
    public Void visitMethodInvocation(MethodInvocationTree tree, Void none) {
        Element called = elementOf(tree.getMethodSelect());
        String home = called.getEnclosingElement().toString();
        String name = home + "." + called.getSimpleName();
        boolean own = home.startsWith("FlippedBlinds");
        boolean listed = LIBRARY_METHODS.contains(name)
            || LIBRARY_CLASSES.contains(home) && isOverNumbers(called);
        rule(4, name + " stands in the list", tree, own || listed);
        if (method != null) {
            calls.get(method).add(called);
        }
        return super.visitMethodInvocation(tree, none);
    }

    @Override
    public Void visitNewClass(NewClassTree tree, Void none) {
        rule(2, "a new object has no body of its own", tree, tree.getClassBody() == null);
        rule(4, "a new object is of an own class", tree, isOwn(typeOf(tree.getIdentifier())));
        rule(12, "an object is made by a constructor alone", tree, method.getKind() == ElementKind.CONSTRUCTOR);
        calls.get(method).add(trees.getElement(getCurrentPath()));
        return super.visitNewClass(tree, none);
    }

    @Override
    public Void visitNewArray(NewArrayTree tree, Void none) {
        rule(3, "an array of one dimension", tree, tree.getDimensions().size() <= 1);
        boolean constant = getCurrentPath().getParentPath().getParentPath().getLeaf() instanceof ClassTree;
        boolean made = !constant && method != null && method.getKind() == ElementKind.CONSTRUCTOR;
        rule(12, "an array is made by a constructor, or is a constant", tree, made || constant && isWrittenOut(tree));
        return super.visitNewArray(tree, none);
    }

    @Override
    public Void visitBinary(BinaryTree tree, Void none) {
        Tree.Kind kind = tree.getKind();
        if (kind == Tree.Kind.DIVIDE || kind == Tree.Kind.REMAINDER) {
            rule(7, "a divisor is a constant, not 0", tree, isFixedNumber(tree.getRightOperand()));
        }
        TypeMirror left = typeOf(tree.getLeftOperand());
        TypeMirror right = typeOf(tree.getRightOperand());
        boolean numbers = isNumber(left) && isNumber(right);
        boolean equal = kind == Tree.Kind.EQUAL_TO || kind == Tree.Kind.NOT_EQUAL_TO;
        boolean ownOnes = (isOwn(left) || left.getKind() == TypeKind.NULL)
            && (isOwn(right) || right.getKind() == TypeKind.NULL);
        rule(equal ? 6 : 10, kind + " of numbers, or == of own objects", tree, numbers || equal && ownOnes);
        return super.visitBinary(tree, none);
    }

    @Override
    public Void visitCompoundAssignment(CompoundAssignmentTree tree, Void none) {
        Tree.Kind kind = tree.getKind();
        rule(7, "no divisor in " + kind, tree,
            kind != Tree.Kind.DIVIDE_ASSIGNMENT && kind != Tree.Kind.REMAINDER_ASSIGNMENT);
        rule(10, kind + " of numbers", tree, isNumber(typeOf(tree.getVariable())));
        notInConstant(tree.getVariable());
        return super.visitCompoundAssignment(tree, none);
    }

    @Override
    public Void visitAssignment(AssignmentTree tree, Void none) {
        notInConstant(tree.getVariable());
        return super.visitAssignment(tree, none);
    }

    /** An array that is a constant stays as it was written. */
    private void notInConstant(ExpressionTree target) {
        if (target instanceof ArrayAccessTree) {
            ExpressionTree array = ((ArrayAccessTree) target).getExpression();
            boolean named = array instanceof IdentifierTree || array instanceof MemberSelectTree;
            Element element = named ? elementOf(array) : null;
            rule(5, "no constant is changed", target,
                element != null && !element.getModifiers().contains(Modifier.STATIC));
        }
    }

    @Override
    public Void visitTypeCast(TypeCastTree tree, Void none) {
        rule(7, "a cast of a number", tree, isNumber(typeOf(tree.getType())) && isNumber(typeOf(tree.getExpression())));
        return super.visitTypeCast(tree, none);
    }

    private void loop(Tree tree, ExpressionTree condition) {
        ExpressionTree inner = condition;
        while (inner instanceof ParenthesizedTree) {
            inner = ((ParenthesizedTree) inner).getExpression();
        }
        rule(9, "a loop has a condition", tree, inner != null && !(inner instanceof LiteralTree));
    }

    @Override
    public Void visitForLoop(ForLoopTree tree, Void none) {
        loop(tree, tree.getCondition());
        return super.visitForLoop(tree, none);
    }

    @Override
    public Void visitWhileLoop(WhileLoopTree tree, Void none) {
        loop(tree, tree.getCondition());
        return super.visitWhileLoop(tree, none);
    }

    @Override
    public Void visitDoWhileLoop(DoWhileLoopTree tree, Void none) {
        loop(tree, tree.getCondition());
        return super.visitDoWhileLoop(tree, none);
    }

    @Override
    public Void visitSwitch(SwitchTree tree, Void none) {
        rule(6, "switch on a number", tree, isNumber(typeOf(tree.getExpression())));
        return super.visitSwitch(tree, none);
    }

    @Override
    public Void visitLambdaExpression(LambdaExpressionTree tree, Void none) {
        rule(2, "no lambda", tree, false);
        return null;
    }

    @Override
    public Void visitMemberReference(MemberReferenceTree tree, Void none) {
        rule(2, "no method reference", tree, false);
        return null;
    }

    @Override
    public Void visitThrow(ThrowTree tree, Void none) {
        rule(6, "no throw", tree, false);
        return null;
    }

    @Override
    public Void visitTry(TryTree tree, Void none) {
        rule(6, "no try", tree, false);
        return null;
    }

    @Override
    public Void visitSynchronized(SynchronizedTree tree, Void none) {
        rule(6, "no synchronized", tree, false);
        return null;
    }

    @Override
    public Void visitAssert(AssertTree tree, Void none) {
        rule(6, "no assert", tree, false);
        return null;
    }

    @Override
    public Void visitInstanceOf(InstanceOfTree tree, Void none) {
        rule(6, "no instanceof is needed here", tree, false);
        return null;
    }
}
