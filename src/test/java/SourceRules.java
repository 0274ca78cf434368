import com.sun.source.tree.ArrayAccessTree;
import com.sun.source.tree.AssertTree;
import com.sun.source.tree.BinaryTree;
import com.sun.source.tree.BlockTree;
import com.sun.source.tree.ClassTree;
import com.sun.source.tree.CompilationUnitTree;
import com.sun.source.tree.CompoundAssignmentTree;
import com.sun.source.tree.ConditionalExpressionTree;
import com.sun.source.tree.DoWhileLoopTree;
import com.sun.source.tree.EnhancedForLoopTree;
import com.sun.source.tree.ExpressionTree;
import com.sun.source.tree.ForLoopTree;
import com.sun.source.tree.IfTree;
import com.sun.source.tree.InstanceOfTree;
import com.sun.source.tree.LambdaExpressionTree;
import com.sun.source.tree.LiteralTree;
import com.sun.source.tree.MemberReferenceTree;
import com.sun.source.tree.MethodInvocationTree;
import com.sun.source.tree.MethodTree;
import com.sun.source.tree.NewArrayTree;
import com.sun.source.tree.NewClassTree;
import com.sun.source.tree.SynchronizedTree;
import com.sun.source.tree.ThrowTree;
import com.sun.source.tree.Tree;
import com.sun.source.tree.TryTree;
import com.sun.source.tree.TypeCastTree;
import com.sun.source.tree.UnaryTree;
import com.sun.source.tree.VariableTree;
import com.sun.source.tree.WhileLoopTree;
import com.sun.source.util.TreePath;
import com.sun.source.util.TreePathScanner;
import com.sun.source.util.Trees;
import java.util.ArrayDeque;
import java.util.Deque;
import java.util.EnumSet;
import java.util.Set;
import javax.lang.model.element.Element;
import javax.lang.model.element.ElementKind;
import javax.lang.model.element.ExecutableElement;
import javax.lang.model.element.Modifier;
import javax.lang.model.element.VariableElement;
import javax.lang.model.type.TypeKind;
import javax.lang.model.type.TypeMirror;

/** Goes through the tree of a source and checks the rules of ../shared/LANGUAGE.md. */
final class SourceRules extends TreePathScanner<Void, Void> {
    private static final int MOST_CLASSES = 12;
    private static final int MOST_FIELDS = 20;
    private static final int MOST_LINES = 60;
    private static final int MOST_PARAMETERS = 7;
    private static final int MOST_DEPTH = 8;
    private static final Set<String> EXCEPTIONS = Set.of("java.lang.IllegalStateException",
            "java.lang.IllegalArgumentException", "java.lang.IndexOutOfBoundsException");
    private static final Set<String> LIBRARY = Set.of("java.lang.Math.abs(long)");
    private static final Set<String> CONSTANTS = Set.of("int", "long", "boolean", "char",
            "java.lang.String");
    private static final Set<Tree.Kind> COMPARISONS = EnumSet.of(Tree.Kind.LESS_THAN,
            Tree.Kind.LESS_THAN_EQUAL, Tree.Kind.GREATER_THAN, Tree.Kind.GREATER_THAN_EQUAL);

    private final Trees trees;
    private final CompilationUnitTree unit;
    private final CallDepth calls = new CallDepth();
    private final Deque<Element> callers = new ArrayDeque<>();
    private final Deque<MethodTree> methods = new ArrayDeque<>();
    private int classes = 0;

    SourceRules(Trees trees, CompilationUnitTree unit) {
        this.trees = trees;
        this.unit = unit;
    }

    void end() {
        isKept(11, "has " + classes + " classes", classes <= MOST_CLASSES);
        isKept(8, "has calls that come back: " + calls.circle(), calls.circle().isEmpty());
        isKept(11, "has calls too deep: " + calls.deepest(), calls.deepest().size() <= MOST_DEPTH);
    }

    private static void isKept(int rule, String what, boolean holds) {
        Check.isTrue("rule " + rule + ": that LadderMakers.java " + what, holds);
    }

    private void rule(int rule, Tree at, boolean holds) {
        long position = trees.getSourcePositions().getStartPosition(unit, at);
        long line = unit.getLineMap().getLineNumber(position);
        Check.isTrue("rule " + rule + " in line " + line + ", '" + firstLine(at) + "',", holds);
    }

    private static String firstLine(Tree tree) {
        return tree.toString().strip().lines().findFirst().orElse("");
    }

    private Element elementOf(Tree tree) {
        return trees.getElement(new TreePath(getCurrentPath(), tree));
    }

    private TypeMirror typeOf(Tree tree) {
        return trees.getTypeMirror(new TreePath(getCurrentPath(), tree));
    }

    private boolean isFraction(Tree tree) {
        TypeKind kind = typeOf(tree).getKind();
        return kind == TypeKind.DOUBLE || kind == TypeKind.FLOAT;
    }

    private boolean isOwn(Element element) {
        Element outer = element;
        while (outer.getEnclosingElement() != null
                && outer.getEnclosingElement().getKind() != ElementKind.PACKAGE) {
            outer = outer.getEnclosingElement();
        }
        return outer.getSimpleName().contentEquals("LadderMakers");
    }

    // ---- classes, fields and methods

    @Override
    public Void visitClass(ClassTree tree, Void unused) {
        Element element = trees.getElement(getCurrentPath());
        boolean isOutside = getCurrentPath().getParentPath().getLeaf() == unit;
        Set<Modifier> modifiers = element.getModifiers();
        classes++;
        rule(2, tree, methods.isEmpty() && tree.getKind() == Tree.Kind.CLASS);
        rule(2, tree, isOutside || modifiers.contains(Modifier.STATIC)
                && !modifiers.contains(Modifier.PUBLIC) && !modifiers.contains(Modifier.PROTECTED));
        rule(11, tree, fieldsOf(tree) <= MOST_FIELDS);
        callers.push(element);
        super.visitClass(tree, unused);
        callers.pop();
        return null;
    }

    private static long fieldsOf(ClassTree tree) {
        return tree.getMembers().stream().filter(member -> member instanceof VariableTree field
                && !field.getModifiers().getFlags().contains(Modifier.STATIC)).count();
    }

    @Override
    public Void visitVariable(VariableTree tree, Void unused) {
        Element element = trees.getElement(getCurrentPath());
        rule(3, tree, isAllowedType(element.asType()));
        if (element.getKind() == ElementKind.FIELD
                && element.getModifiers().contains(Modifier.STATIC)) {
            rule(5, tree, element.getModifiers().contains(Modifier.FINAL)
                    && CONSTANTS.contains(element.asType().toString()));
        }
        return super.visitVariable(tree, unused);
    }

    private boolean isAllowedType(TypeMirror type) {
        String name = type.toString();
        String inside = name.replace("[]", "");
        int dimensions = (name.length() - inside.length()) / 2;
        boolean isNumber = !inside.contains(".") && !inside.startsWith("LadderMakers");
        return dimensions <= (isNumber ? 2 : 1)
                && (isNumber || inside.startsWith("LadderMakers")
                        || inside.equals("java.lang.String"));
    }

    @Override
    public Void visitMethod(MethodTree tree, Void unused) {
        Element element = trees.getElement(getCurrentPath());
        boolean isConstructor = element.getKind() == ElementKind.CONSTRUCTOR;
        rule(11, tree, linesOf(tree) <= MOST_LINES);
        rule(11, tree, tree.getParameters().size() <= MOST_PARAMETERS);
        methods.push(tree);
        callers.push(isConstructor ? element.getEnclosingElement() : element);
        calls.add(callers.peek());
        super.visitMethod(tree, unused);
        callers.pop();
        methods.pop();
        return null;
    }

    private long linesOf(MethodTree tree) {
        long first = trees.getSourcePositions().getStartPosition(unit, tree);
        long last = trees.getSourcePositions().getEndPosition(unit, tree);
        return first < 0 || last < 0 ? 0
                : unit.getLineMap().getLineNumber(last) - unit.getLineMap().getLineNumber(first) + 1;
    }

    @Override
    public Void visitBlock(BlockTree tree, Void unused) {
        rule(5, tree, !(getCurrentPath().getParentPath().getLeaf() instanceof ClassTree));
        return super.visitBlock(tree, unused);
    }

    // ---- calls and new objects

    @Override
    public Void visitMethodInvocation(MethodInvocationTree tree, Void unused) {
        ExecutableElement called = (ExecutableElement) elementOf(tree.getMethodSelect());
        boolean isOfObject = called.getEnclosingElement().toString().equals("java.lang.Object");
        if (isOwn(called)) {
            calls.add(callers.peek(), called);
        } else if (!isOfObject || called.getKind() != ElementKind.CONSTRUCTOR) {
            rule(4, tree, LIBRARY.contains(called.getEnclosingElement() + "." + called));
        }
        return super.visitMethodInvocation(tree, unused);
    }

    @Override
    public Void visitNewClass(NewClassTree tree, Void unused) {
        Element made = trees.getElement(getCurrentPath()).getEnclosingElement();
        rule(2, tree, tree.getClassBody() == null);
        if (isOwn(made)) {
            calls.add(callers.peek(), made);
            rule(12, tree, isMadeWithTheObject());
        } else {
            boolean isThrown = getCurrentPath().getParentPath().getLeaf() instanceof ThrowTree;
            rule(4, tree, isThrown && EXCEPTIONS.contains(made.toString()));
        }
        return super.visitNewClass(tree, unused);
    }

    @Override
    public Void visitNewArray(NewArrayTree tree, Void unused) {
        rule(12, tree, isMadeWithTheObject());
        return super.visitNewArray(tree, unused);
    }

    /** Rows and parts are made once and used again: no call makes more of them. */
    private boolean isMadeWithTheObject() {
        return methods.isEmpty() || isInConstructor();
    }

    // ---- exceptions

    @Override
    public Void visitThrow(ThrowTree tree, Void unused) {
        boolean isNew = tree.getExpression() instanceof NewClassTree;
        rule(6, tree, !isInConstructor());
        rule(6, tree, isNew && ((NewClassTree) tree.getExpression()).getArguments().stream()
                .allMatch(LiteralTree.class::isInstance));
        return super.visitThrow(tree, unused);
    }

    private boolean isInConstructor() {
        return !methods.isEmpty() && methods.peek().getName().contentEquals("<init>");
    }

    @Override
    public Void visitTry(TryTree tree, Void unused) {
        rule(6, tree, false);
        return super.visitTry(tree, unused);
    }

    @Override
    public Void visitAssert(AssertTree tree, Void unused) {
        rule(6, tree, false);
        return super.visitAssert(tree, unused);
    }

    @Override
    public Void visitSynchronized(SynchronizedTree tree, Void unused) {
        rule(6, tree, false);
        return super.visitSynchronized(tree, unused);
    }

    @Override
    public Void visitInstanceOf(InstanceOfTree tree, Void unused) {
        rule(6, tree, false);
        return super.visitInstanceOf(tree, unused);
    }

    @Override
    public Void visitLambdaExpression(LambdaExpressionTree tree, Void unused) {
        rule(2, tree, false);
        return super.visitLambdaExpression(tree, unused);
    }

    @Override
    public Void visitMemberReference(MemberReferenceTree tree, Void unused) {
        rule(2, tree, false);
        return super.visitMemberReference(tree, unused);
    }

    // ---- what the machine would throw

    @Override
    public Void visitArrayAccess(ArrayAccessTree tree, Void unused) {
        String test = tree.getIndex() + " < " + tree.getExpression() + ".length";
        rule(7, tree, isTested(test));
        return super.visitArrayAccess(tree, unused);
    }

    /** Whether a loop, an if or a ?: round the current place has the test in its condition. */
    private boolean isTested(String test) {
        for (Tree around : getCurrentPath()) {
            String condition = "";
            if (around instanceof ForLoopTree loop) {
                condition = "" + loop.getCondition();
            } else if (around instanceof IfTree branch) {
                condition = "" + branch.getCondition();
            } else if (around instanceof ConditionalExpressionTree choice) {
                condition = "" + choice.getCondition();
            }
            if (condition.contains(test)) {
                return true;
            }
        }
        return false;
    }

    @Override
    public Void visitTypeCast(TypeCastTree tree, Void unused) {
        rule(7, tree, typeOf(tree.getType()).getKind().isPrimitive());
        return super.visitTypeCast(tree, unused);
    }

    @Override
    public Void visitBinary(BinaryTree tree, Void unused) {
        boolean hasFraction = isFraction(tree.getLeftOperand()) || isFraction(tree.getRightOperand());
        boolean isRest = tree.getKind() == Tree.Kind.REMAINDER;
        if (isRest || tree.getKind() == Tree.Kind.DIVIDE) {
            rule(3, tree, !isRest || !hasFraction);
            rule(7, tree, isTestedDivisor(tree.getRightOperand()));
        }
        if (tree.getKind() == Tree.Kind.PLUS) {
            rule(10, tree, typeOf(tree.getLeftOperand()).getKind().isPrimitive()
                    && typeOf(tree.getRightOperand()).getKind().isPrimitive());
        }
        return super.visitBinary(tree, unused);
    }

    /** A constant other than 0, or one that the method compares with 0. */
    private boolean isTestedDivisor(ExpressionTree divisor) {
        if (divisor instanceof LiteralTree literal) {
            return ((Number) literal.getValue()).longValue() != 0;
        }
        Element element = elementOf(divisor);
        if (element instanceof VariableElement variable && variable.getConstantValue() != null) {
            return ((Number) variable.getConstantValue()).longValue() != 0;
        }
        String name = divisor.toString().replaceAll("^\\(\\w+\\)", "").strip();
        String body = methods.isEmpty() ? "" : methods.peek().getBody().toString();
        return body.contains(name + " != 0") || body.contains(name + " == 0")
                || body.contains(name + " > 0");
    }

    @Override
    public Void visitCompoundAssignment(CompoundAssignmentTree tree, Void unused) {
        rule(7, tree, tree.getKind() != Tree.Kind.DIVIDE_ASSIGNMENT
                && tree.getKind() != Tree.Kind.REMAINDER_ASSIGNMENT);
        rule(10, tree, typeOf(tree.getVariable()).getKind().isPrimitive());
        return super.visitCompoundAssignment(tree, unused);
    }

    @Override
    public Void visitUnary(UnaryTree tree, Void unused) {
        rule(3, tree, !isFraction(tree.getExpression()));
        return super.visitUnary(tree, unused);
    }

    // ---- loops

    @Override
    public Void visitForLoop(ForLoopTree tree, Void unused) {
        rule(9, tree, tree.getUpdate().size() == 1 && hasBound(tree.getCondition()));
        return super.visitForLoop(tree, unused);
    }

    /** A comparison that must hold for the loop to go on. */
    private static boolean hasBound(ExpressionTree condition) {
        if (condition instanceof BinaryTree both && both.getKind() == Tree.Kind.CONDITIONAL_AND) {
            return hasBound(both.getLeftOperand()) || hasBound(both.getRightOperand());
        }
        return condition != null && COMPARISONS.contains(condition.getKind());
    }

    @Override
    public Void visitWhileLoop(WhileLoopTree tree, Void unused) {
        rule(9, tree, false);
        return super.visitWhileLoop(tree, unused);
    }

    @Override
    public Void visitDoWhileLoop(DoWhileLoopTree tree, Void unused) {
        rule(9, tree, false);
        return super.visitDoWhileLoop(tree, unused);
    }

    @Override
    public Void visitEnhancedForLoop(EnhancedForLoopTree tree, Void unused) {
        rule(9, tree, typeOf(tree.getExpression()).getKind() == TypeKind.ARRAY);
        return super.visitEnhancedForLoop(tree, unused);
    }
}
