import com.sun.source.tree.AssertTree;
import com.sun.source.tree.BinaryTree;
import com.sun.source.tree.BlockTree;
import com.sun.source.tree.ClassTree;
import com.sun.source.tree.CompilationUnitTree;
import com.sun.source.tree.CompoundAssignmentTree;
import com.sun.source.tree.DoWhileLoopTree;
import com.sun.source.tree.ExpressionTree;
import com.sun.source.tree.ForLoopTree;
import com.sun.source.tree.ImportTree;
import com.sun.source.tree.LambdaExpressionTree;
import com.sun.source.tree.LineMap;
import com.sun.source.tree.MemberReferenceTree;
import com.sun.source.tree.MethodInvocationTree;
import com.sun.source.tree.MethodTree;
import com.sun.source.tree.NewArrayTree;
import com.sun.source.tree.NewClassTree;
import com.sun.source.tree.SynchronizedTree;
import com.sun.source.tree.ThrowTree;
import com.sun.source.tree.Tree;
import com.sun.source.tree.TryTree;
import com.sun.source.tree.TypeCastTree;
import com.sun.source.tree.VariableTree;
import com.sun.source.tree.WhileLoopTree;
import com.sun.source.util.TreePath;
import com.sun.source.util.TreePathScanner;
import com.sun.source.util.Trees;
import java.util.ArrayList;
import java.util.HashMap;
import java.util.LinkedHashSet;
import java.util.List;
import java.util.Map;
import java.util.Set;
import javax.lang.model.element.Element;
import javax.lang.model.element.ElementKind;
import javax.lang.model.element.ExecutableElement;
import javax.lang.model.element.Modifier;
import javax.lang.model.element.VariableElement;
import javax.lang.model.type.ArrayType;
import javax.lang.model.type.TypeKind;
import javax.lang.model.type.TypeMirror;

/**
 * What of ../shared/LANGUAGE.md can be seen in a file's tree, each breach told as "rule N: what, line". Stricter than
 * the rules where the class needs less: no recursion, no cast, no object made outside constructors and fields, and of
 * the library only what the class uses.
 */
final class Rules extends TreePathScanner<Void, Void> {
    private static final Set<String> LIBRARY = Set.of("String.length()", "String.charAt(int)", "Integer.bitCount(int)",
        "Math.max(int,int)", "Math.min(int,int)", "Arrays.fill(int[],int)",
        "System.arraycopy(java.lang.Object,int,java.lang.Object,int,int)");
    private static final Set<String> FORBIDDEN_NAMES = Set.of("equals", "hashCode", "toString", "finalize", "clone");
    private static final int MOST_PARAMETERS = 7;
    private static final int MOST_LINES = 62;
    private static final int MOST_DEEP = 8;
    private static final int MOST_CLASSES = 12;
    private static final int MOST_FIELDS = 20;

    private final Trees trees;
    private final List<String> broken = new ArrayList<>();
    private final Map<ExecutableElement, Set<ExecutableElement>> calls = new HashMap<>();
    private CompilationUnitTree unit;
    private ExecutableElement inMethod;
    private String methodText = "";
    private int classes = 0;

    Rules(Trees trees) {
        this.trees = trees;
    }

    void goThrough(CompilationUnitTree file) {
        unit = file;
        scan(file, null);
        if (classes > MOST_CLASSES) {
            broken.add("rule 11: " + classes + " classes");
        }
        for (ExecutableElement method : new ArrayList<>(calls.keySet())) {
            int deep = deepness(method, new ArrayList<>());
            if (deep > MOST_DEEP) {
                broken.add("rule 11: calls of " + method + " go " + deep + " deep");
            }
        }
    }

    List<String> broken() {
        return broken;
    }

    private void breach(int rule, String what, Tree tree) {
        LineMap lines = unit.getLineMap();
        long start = trees.getSourcePositions().getStartPosition(unit, tree);
        broken.add("rule " + rule + ": " + what + ", line " + (start < 0 ? 0 : lines.getLineNumber(start)));
    }

    private int deepness(ExecutableElement method, List<ExecutableElement> open) {
        if (open.contains(method)) {
            broken.add("rule 8: " + method + " calls itself through " + open);
            return 0;
        }
        open.add(method);
        int most = 0;
        for (ExecutableElement called : calls.getOrDefault(method, Set.of())) {
            most = Math.max(most, deepness(called, open));
        }
        open.remove(open.size() - 1);
        return most + 1;
    }

    private TypeMirror typeOf(Tree tree) {
        return trees.getTypeMirror(new TreePath(getCurrentPath(), tree));
    }

    // ---------------------------------------------------------------- classes, fields, methods

    @Override
    public Void visitImport(ImportTree tree, Void v) {
        if (tree.isStatic() || !tree.getQualifiedIdentifier().toString().equals("java.util.Arrays")) {
            breach(4, "import of " + tree.getQualifiedIdentifier(), tree);
        }
        return null;
    }

    @Override
    public Void visitClass(ClassTree tree, Void v) {
        classes++;
        Set<Modifier> flags = tree.getModifiers().getFlags();
        boolean outer = getCurrentPath().getParentPath().getLeaf() instanceof CompilationUnitTree;
        if (!outer && !flags.contains(Modifier.STATIC)) {
            breach(2, "class " + tree.getSimpleName() + " is not static, or not a member", tree);
        }
        int fields = 0;
        for (Tree member : tree.getMembers()) {
            boolean field = member instanceof VariableTree;
            fields += field && !((VariableTree) member).getModifiers().getFlags().contains(Modifier.STATIC) ? 1 : 0;
            if (member instanceof BlockTree) {
                breach(5, "an initialiser block", member);
            }
        }
        if (fields > MOST_FIELDS) {
            breach(11, "class " + tree.getSimpleName() + " has " + fields + " fields", tree);
        }
        return super.visitClass(tree, v);
    }

    @Override
    public Void visitVariable(VariableTree tree, Void v) {
        Element element = trees.getElement(getCurrentPath());
        if (!isAllowed(element.asType(), 0)) {
            breach(3, "type of " + tree, tree);
        }
        Set<Modifier> flags = tree.getModifiers().getFlags();
        if (element.getKind() == ElementKind.FIELD && flags.contains(Modifier.STATIC)
            && (!flags.contains(Modifier.FINAL) || ((VariableElement) element).getConstantValue() == null)) {
            breach(5, "static and no constant: " + tree, tree);
        }
        return super.visitVariable(tree, v);
    }

    private boolean isAllowed(TypeMirror type, int dimensions) {
        if (type.getKind() == TypeKind.ARRAY) {
            TypeMirror of = ((ArrayType) type).getComponentType();
            return dimensions < 2 && isAllowed(of, dimensions + 1) && (dimensions == 0 || of.getKind().isPrimitive());
        }
        String name = type.toString();
        return type.getKind().isPrimitive() || name.equals("java.lang.String") || !name.startsWith("java.");
    }

    @Override
    public Void visitMethod(MethodTree tree, Void v) {
        ExecutableElement before = inMethod;
        String textBefore = methodText;
        inMethod = (ExecutableElement) trees.getElement(getCurrentPath());
        methodText = tree.toString();
        calls.putIfAbsent(inMethod, new LinkedHashSet<>());
        if (FORBIDDEN_NAMES.contains(tree.getName().toString())) {
            breach(6, "method " + tree.getName(), tree);
        }
        if (tree.getParameters().size() > MOST_PARAMETERS) {
            breach(11, "parameters of " + tree.getName(), tree);
        }
        if (linesOf(tree) > MOST_LINES) {
            breach(11, tree.getName() + " has " + linesOf(tree) + " lines", tree);
        }
        super.visitMethod(tree, v);
        inMethod = before;
        methodText = textBefore;
        return null;
    }

    private long linesOf(Tree tree) {
        LineMap lines = unit.getLineMap();
        long start = trees.getSourcePositions().getStartPosition(unit, tree);
        long end = trees.getSourcePositions().getEndPosition(unit, tree);
        return start < 0 || end < 0 ? 0 : lines.getLineNumber(end) - lines.getLineNumber(start) + 1;
    }

    // ---------------------------------------------------------------- calls and what is made

    @Override
    public Void visitMethodInvocation(MethodInvocationTree tree, Void v) {
        Element element = trees.getElement(getCurrentPath());
        if (element instanceof ExecutableElement && !element.getSimpleName().contentEquals("<init>")) {
            ExecutableElement method = (ExecutableElement) element;
            String owner = method.getEnclosingElement().toString();
            if (!owner.startsWith("java.")) {
                note(method);
            } else if (!LIBRARY.contains(method.getEnclosingElement().getSimpleName() + "." + method)) {
                breach(4, "call of " + owner + "." + method, tree);
            }
        }
        return super.visitMethodInvocation(tree, v);
    }

    private void note(ExecutableElement called) {
        if (inMethod != null) {
            calls.get(inMethod).add(called);
        }
    }

    @Override
    public Void visitNewClass(NewClassTree tree, Void v) {
        Element element = trees.getElement(getCurrentPath());
        if (tree.getClassBody() != null) {
            breach(2, "a class without a name", tree);
        }
        if (element instanceof ExecutableElement) {
            note((ExecutableElement) element);
        }
        onlyInConstructor("new " + tree.getIdentifier(), tree);
        return super.visitNewClass(tree, v);
    }

    @Override
    public Void visitNewArray(NewArrayTree tree, Void v) {
        onlyInConstructor("a new array", tree);
        return super.visitNewArray(tree, v);
    }

    // Rows are made with their objects, so that no call makes any.
    private void onlyInConstructor(String what, Tree tree) {
        if (inMethod != null && inMethod.getKind() != ElementKind.CONSTRUCTOR) {
            breach(12, what + " outside a constructor", tree);
        }
    }

    // ---------------------------------------------------------------- statements

    @Override
    public Void visitLambdaExpression(LambdaExpressionTree tree, Void v) {
        breach(2, "a lambda", tree);
        return super.visitLambdaExpression(tree, v);
    }

    @Override
    public Void visitMemberReference(MemberReferenceTree tree, Void v) {
        breach(2, "a method reference", tree);
        return super.visitMemberReference(tree, v);
    }

    @Override
    public Void visitThrow(ThrowTree tree, Void v) {
        breach(6, "throw", tree);
        return super.visitThrow(tree, v);
    }

    @Override
    public Void visitTry(TryTree tree, Void v) {
        breach(6, "try", tree);
        return super.visitTry(tree, v);
    }

    @Override
    public Void visitSynchronized(SynchronizedTree tree, Void v) {
        breach(6, "synchronized", tree);
        return super.visitSynchronized(tree, v);
    }

    @Override
    public Void visitAssert(AssertTree tree, Void v) {
        breach(6, "assert", tree);
        return super.visitAssert(tree, v);
    }

    @Override
    public Void visitTypeCast(TypeCastTree tree, Void v) {
        if (!typeOf(tree.getType()).getKind().isPrimitive()) {
            breach(6, "a cast", tree);
        }
        return super.visitTypeCast(tree, v);
    }

    // A loop's condition must hold something against a bound.
    @Override
    public Void visitForLoop(ForLoopTree tree, Void v) {
        boundedBy(tree.getCondition(), tree);
        if (tree.getUpdate().isEmpty()) {
            breach(9, "a for that steps nowhere", tree);
        }
        return super.visitForLoop(tree, v);
    }

    @Override
    public Void visitWhileLoop(WhileLoopTree tree, Void v) {
        boundedBy(tree.getCondition(), tree);
        return super.visitWhileLoop(tree, v);
    }

    @Override
    public Void visitDoWhileLoop(DoWhileLoopTree tree, Void v) {
        boundedBy(tree.getCondition(), tree);
        return super.visitDoWhileLoop(tree, v);
    }

    private void boundedBy(ExpressionTree condition, Tree loop) {
        if (condition == null || !condition.toString().matches("(?s).*[^<>](<|>|<=|>=) .*")) {
            breach(9, "a loop without a bound", loop);
        }
    }

    // ---------------------------------------------------------------- expressions

    @Override
    public Void visitBinary(BinaryTree tree, Void v) {
        TypeMirror left = typeOf(tree.getLeftOperand());
        TypeMirror right = typeOf(tree.getRightOperand());
        boolean numbers = left.getKind().isPrimitive() && right.getKind().isPrimitive();
        switch (tree.getKind()) {
            case PLUS:
                if (!numbers) {
                    breach(10, "texts joined by +", tree);
                }
                break;
            case EQUAL_TO:
            case NOT_EQUAL_TO:
                if (!numbers) {
                    breach(6, "objects compared: " + tree, tree);
                }
                break;
            case DIVIDE:
            case REMAINDER:
                divides(tree.getRightOperand(), tree);
                break;
            default:
                break;
        }
        return super.visitBinary(tree, v);
    }

    @Override
    public Void visitCompoundAssignment(CompoundAssignmentTree tree, Void v) {
        if (tree.getKind() == Tree.Kind.DIVIDE_ASSIGNMENT || tree.getKind() == Tree.Kind.REMAINDER_ASSIGNMENT) {
            divides(tree.getExpression(), tree);
        }
        if (tree.getKind() == Tree.Kind.PLUS_ASSIGNMENT && !typeOf(tree.getVariable()).getKind().isPrimitive()) {
            breach(10, "texts joined by +=", tree);
        }
        return super.visitCompoundAssignment(tree, v);
    }

    // A divisor is a number written out, a constant, or looked at in the same method.
    private void divides(ExpressionTree divisor, Tree tree) {
        Element element = trees.getElement(new TreePath(getCurrentPath(), divisor));
        boolean constant = element instanceof VariableElement && ((VariableElement) element).getConstantValue() != null;
        boolean written = divisor.toString().matches("[0-9_]*[1-9][0-9_]*");
        if (!constant && !written && !methodText.contains(divisor + " > 0")) {
            breach(7, "divides by " + divisor, tree);
        }
    }
}
