import com.sun.source.tree.*;
import com.sun.source.util.JavacTask;
import com.sun.source.util.TreePath;
import com.sun.source.util.TreePathScanner;
import com.sun.source.util.Trees;
import java.net.URI;
import java.util.ArrayList;
import java.util.HashMap;
import java.util.HashSet;
import java.util.LinkedHashMap;
import java.util.List;
import java.util.Map;
import java.util.Set;
import java.util.TreeSet;
import javax.lang.model.element.Element;
import javax.lang.model.element.ElementKind;
import javax.lang.model.element.Modifier;
import javax.lang.model.element.TypeElement;
import javax.lang.model.type.ArrayType;
import javax.lang.model.type.TypeKind;
import javax.lang.model.type.TypeMirror;
import javax.tools.JavaFileObject;
import javax.tools.SimpleJavaFileObject;
import javax.tools.ToolProvider;

/**
 * The rules of LANGUAGE.md, as far as the compiler's tree of the program shows them, and narrower where the
 * program is: it has no list, no generic class, no cast and no recursion, so none of these is let through.
 */
final class Rules extends TreePathScanner<Void, Void> {
    /** What of the library the program uses, all of it in rule 4. */
    private static final Set<String> LIBRARY = Set.of(
        "java.lang.String.length", "java.lang.String.charAt", "java.lang.Math.min", "java.lang.Math.max",
        "java.lang.Integer.bitCount", "java.lang.System.arraycopy", "java.util.Arrays.fill");
    private static final int MOST_LINES = 60;
    private static final int MOST_DEEP = 8;
    private static final int MOST_CLASSES = 12;
    private static final int MOST_FIELDS = 20;
    private static final int MOST_PARAMETERS = 7;

    private final List<String> broken = new ArrayList<>();
    private final Map<Element, Set<Element>> calls = new LinkedHashMap<>();
    private final Set<String> faceNames = new TreeSet<>();
    private final List<Element> methods = new ArrayList<>();
    private final Trees trees;
    private final CompilationUnitTree unit;
    private int classes = 0;
    private int loops = 0;

    private Rules(Trees trees, CompilationUnitTree unit) {
        this.trees = trees;
        this.unit = unit;
    }

    /** Each breach as "rule n: what, line"; a text that does not compile is one, too. */
    static List<String> brokenIn(String text) throws Exception {
        JavaFileObject file = new SimpleJavaFileObject(URI.create("string:///AheadStore.java"), JavaFileObject.Kind.SOURCE) {
            @Override
            public CharSequence getCharContent(boolean any) {
                return text;
            }
        };
        List<String> errors = new ArrayList<>();
        JavacTask task = (JavacTask) ToolProvider.getSystemJavaCompiler().getTask(null, null, told -> {
            if (told.getKind() == javax.tools.Diagnostic.Kind.ERROR) {
                errors.add("does not compile: " + told);
            }
        }, List.of("-proc:none", "--release", "17"), null, List.of(file));
        CompilationUnitTree unit = task.parse().iterator().next();
        task.analyze();
        if (!errors.isEmpty()) {
            return errors;
        }
        Rules rules = new Rules(Trees.instance(task), unit);
        rules.scan(unit, null);
        rules.atTheEnd();
        return rules.broken;
    }

    private void breach(int rule, String what, Tree at) {
        long place = trees.getSourcePositions().getStartPosition(unit, at);
        broken.add("rule " + rule + ": " + what + ", line " + unit.getLineMap().getLineNumber(Math.max(place, 0)));
    }

    private Element element() {
        return trees.getElement(getCurrentPath());
    }

    private Element elementOf(Tree tree) {
        return trees.getElement(new TreePath(getCurrentPath(), tree));
    }

    private TypeMirror typeOf(Tree tree) {
        return trees.getTypeMirror(new TreePath(getCurrentPath(), tree));
    }

    private static boolean isOwn(Element e) {
        for (Element at = e; at != null; at = at.getEnclosingElement()) {
            if (at.getKind() == ElementKind.CLASS && ((TypeElement) at).getQualifiedName().contentEquals("AheadStore")) {
                return true;
            }
        }
        return false;
    }

    private static boolean isText(TypeMirror type) {
        return type != null && type.toString().equals("java.lang.String");
    }

    // 1, 2, 11: classes and what they have

    @Override
    public Void visitClass(ClassTree tree, Void none) {
        Element e = element();
        classes++;
        boolean top = getCurrentPath().getParentPath().getLeaf() instanceof CompilationUnitTree;
        Set<Modifier> is = e.getModifiers();
        if (top && !(is.contains(Modifier.PUBLIC) && is.contains(Modifier.FINAL))) {
            breach(1, "the class is not public and final", tree);
        }
        if (!top && (is.contains(Modifier.PUBLIC) || is.contains(Modifier.PROTECTED))) {
            breach(1, "a class inside that is seen: " + e, tree);
        }
        if (!top && !(getCurrentPath().getParentPath().getLeaf() instanceof ClassTree)) {
            breach(2, "a local or anonymous class", tree);
        } else if (!top && !is.contains(Modifier.STATIC)) {
            breach(2, "a class inside that is not static: " + e, tree);
        }
        if (tree.getKind() != Tree.Kind.CLASS || !tree.getTypeParameters().isEmpty()) {
            breach(2, "a class of a kind that the program has none of: " + e, tree);
        }
        fields(tree, top);
        return super.visitClass(tree, none);
    }

    private void fields(ClassTree tree, boolean top) {
        int own = 0;
        for (Tree member : tree.getMembers()) {
            if (member instanceof BlockTree) {
                breach(5, "an initialiser block", member);
            }
            if (!(member instanceof VariableTree)) {
                continue;
            }
            Set<Modifier> is = ((VariableTree) member).getModifiers().getFlags();
            String name = ((VariableTree) member).getName().toString();
            own += is.contains(Modifier.STATIC) ? 0 : 1;
            if (top && !is.contains(Modifier.PRIVATE) && !name.equals("NONE")) {
                breach(1, "a field that is seen: " + name, member);
            }
            if (is.contains(Modifier.STATIC)) {
                constant((VariableTree) member, is);
            }
        }
        if (own > MOST_FIELDS) {
            breach(11, own + " fields", tree);
        }
    }

    private void constant(VariableTree field, Set<Modifier> is) {
        String type = field.getType().toString();
        boolean row = type.equals("int[]") && field.getInitializer() instanceof NewArrayTree
            && ((NewArrayTree) field.getInitializer()).getInitializers() != null;
        if (!is.contains(Modifier.FINAL) || !(row || type.equals("int") || type.equals("String"))) {
            breach(5, "static " + field.getName(), field);
        }
    }

    @Override
    public Void visitMethod(MethodTree tree, Void none) {
        Element e = element();
        boolean made = tree.getReturnType() == null;
        Set<Modifier> is = e.getModifiers();
        boolean top = e.getEnclosingElement().getSimpleName().contentEquals("AheadStore");
        if (!made) {
            methods.add(e);
        }
        if (top && is.contains(Modifier.PUBLIC) && !made) {
            faceNames.add(tree.getName().toString());
        } else if (top && !is.contains(Modifier.PUBLIC) && !is.contains(Modifier.PRIVATE)) {
            breach(1, "a method that is seen: " + e, tree);
        }
        if (tree.getParameters().size() > MOST_PARAMETERS) {
            breach(11, "parameters of " + e, tree);
        }
        if (lines(tree) > MOST_LINES) {
            breach(11, "lines of " + e + ": " + lines(tree), tree);
        }
        if (!tree.getThrows().isEmpty()) {
            breach(6, "throws", tree);
        }
        calls.put(e, new HashSet<>());
        return super.visitMethod(tree, none);
    }

    private long lines(Tree tree) {
        LineMap map = unit.getLineMap();
        long from = trees.getSourcePositions().getStartPosition(unit, tree);
        long to = trees.getSourcePositions().getEndPosition(unit, tree);
        return from < 0 || to < 0 ? 0 : map.getLineNumber(to) - map.getLineNumber(from) + 1;
    }

    // 2, 6: what is not there at all

    @Override
    public Void visitLambdaExpression(LambdaExpressionTree tree, Void none) {
        breach(2, "a lambda", tree);
        return super.visitLambdaExpression(tree, none);
    }

    @Override
    public Void visitMemberReference(MemberReferenceTree tree, Void none) {
        breach(2, "a method reference", tree);
        return super.visitMemberReference(tree, none);
    }

    @Override
    public Void visitThrow(ThrowTree tree, Void none) {
        breach(6, "throw", tree);
        return super.visitThrow(tree, none);
    }

    @Override
    public Void visitTry(TryTree tree, Void none) {
        breach(6, "try", tree);
        return super.visitTry(tree, none);
    }

    @Override
    public Void visitSynchronized(SynchronizedTree tree, Void none) {
        breach(6, "synchronized", tree);
        return super.visitSynchronized(tree, none);
    }

    @Override
    public Void visitAssert(AssertTree tree, Void none) {
        breach(6, "assert", tree);
        return super.visitAssert(tree, none);
    }

    @Override
    public Void visitTypeCast(TypeCastTree tree, Void none) {
        breach(6, "a cast", tree);
        return super.visitTypeCast(tree, none);
    }

    // 3: types

    @Override
    public Void visitVariable(VariableTree tree, Void none) {
        TypeMirror type = element().asType();
        if (!mayBe(type)) {
            breach(3, tree.getName() + " is a " + type, tree);
        }
        return super.visitVariable(tree, none);
    }

    private static boolean mayBe(TypeMirror type) {
        if (type.getKind() == TypeKind.ARRAY) {
            return ((ArrayType) type).getComponentType().getKind() == TypeKind.INT;
        }
        return type.getKind() == TypeKind.INT || type.getKind() == TypeKind.BOOLEAN || type.getKind() == TypeKind.CHAR
            || isText(type) || type.toString().startsWith("AheadStore");
    }

    // 4, 8, 11, 13: calls

    @Override
    public Void visitMethodInvocation(MethodInvocationTree tree, Void none) {
        Element called = elementOf(tree.getMethodSelect());
        if (called != null && called.getKind() == ElementKind.METHOD) {
            String name = called.getEnclosingElement() + "." + called.getSimpleName();
            if (isOwn(called)) {
                note(called);
            } else if (!LIBRARY.contains(name)) {
                breach(4, name, tree);
            }
        }
        return super.visitMethodInvocation(tree, none);
    }

    private void note(Element called) {
        for (TreePath path = getCurrentPath(); path != null; path = path.getParentPath()) {
            if (path.getLeaf() instanceof MethodTree) {
                calls.get(trees.getElement(path)).add(called);
                return;
            }
        }
    }

    /** How many calls stand open in the deepest one from here; a round is told as far too many. */
    private int depth(Element from, Set<Element> open, Map<Element, Integer> known) {
        if (known.containsKey(from)) {
            return known.get(from);
        }
        if (!open.add(from)) {
            return 1000;
        }
        int deepest = 0;
        for (Element next : calls.getOrDefault(from, Set.of())) {
            deepest = Math.max(deepest, depth(next, open, known));
        }
        open.remove(from);
        known.put(from, deepest + 1);
        return deepest + 1;
    }

    private void atTheEnd() {
        if (classes > MOST_CLASSES) {
            broken.add("rule 11: " + classes + " classes");
        }
        Map<Element, Integer> known = new HashMap<>();
        for (Element e : calls.keySet()) {
            int deep = depth(e, new HashSet<>(), known);
            if (deep > MOST_DEEP) {
                broken.add((deep >= 1000 ? "rule 8: a round of calls from " : "rule 11: " + deep + " calls deep from ") + e);
            }
        }
        for (Element e : methods) {
            boolean ofTheFace = e.getModifiers().contains(Modifier.PUBLIC)
                && e.getEnclosingElement().getSimpleName().contentEquals("AheadStore");
            if (!ofTheFace && faceNames.contains(e.getSimpleName().toString())) {
                broken.add("rule 1: " + e + " bears a name of the face");
            }
        }
    }

    // 5, 6, 7, 10: what is done with values

    @Override
    public Void visitBinary(BinaryTree tree, Void none) {
        boolean texts = isText(typeOf(tree.getLeftOperand())) || isText(typeOf(tree.getRightOperand()));
        switch (tree.getKind()) {
            case DIVIDE:
            case REMAINDER:
                divisor(tree.getRightOperand());
                break;
            case PLUS:
                if (texts) {
                    breach(10, "texts joined by +", tree);
                }
                break;
            case EQUAL_TO:
            case NOT_EQUAL_TO:
                if (texts) {
                    breach(6, "texts compared by ==", tree);
                }
                break;
            default:
                break;
        }
        return super.visitBinary(tree, none);
    }

    private static long constantValue(Element e) {
        Object value = e instanceof javax.lang.model.element.VariableElement
            ? ((javax.lang.model.element.VariableElement) e).getConstantValue() : null;
        return value instanceof Integer ? (Integer) value : 0;
    }

    private void divisor(ExpressionTree by) {
        boolean written = by instanceof LiteralTree && !by.toString().equals("0");
        if (!written && constantValue(elementOf(by)) == 0) {
            breach(7, "a divisor that may be 0: " + by, by);
        }
    }

    @Override
    public Void visitCompoundAssignment(CompoundAssignmentTree tree, Void none) {
        if (tree.getKind() == Tree.Kind.DIVIDE_ASSIGNMENT || tree.getKind() == Tree.Kind.REMAINDER_ASSIGNMENT) {
            divisor(tree.getExpression());
        }
        changed(tree.getVariable());
        return super.visitCompoundAssignment(tree, none);
    }

    @Override
    public Void visitAssignment(AssignmentTree tree, Void none) {
        changed(tree.getVariable());
        return super.visitAssignment(tree, none);
    }

    @Override
    public Void visitUnary(UnaryTree tree, Void none) {
        changed(tree.getExpression());
        return super.visitUnary(tree, none);
    }

    private void changed(ExpressionTree target) {
        if (target instanceof ArrayAccessTree) {
            Element row = elementOf(((ArrayAccessTree) target).getExpression());
            if (row != null && row.getModifiers().contains(Modifier.STATIC)) {
                breach(5, "a constant row is changed: " + target, target);
            }
        }
    }

    // 9: loops

    @Override
    public Void visitWhileLoop(WhileLoopTree tree, Void none) {
        return loop(tree, tree.getCondition(), () -> super.visitWhileLoop(tree, none));
    }

    @Override
    public Void visitDoWhileLoop(DoWhileLoopTree tree, Void none) {
        return loop(tree, tree.getCondition(), () -> super.visitDoWhileLoop(tree, none));
    }

    @Override
    public Void visitForLoop(ForLoopTree tree, Void none) {
        return loop(tree, tree.getCondition(), () -> super.visitForLoop(tree, none));
    }

    private Void loop(Tree tree, ExpressionTree condition, Runnable inside) {
        if (!isCounted(condition, tree)) {
            breach(9, "a loop without a counter against a bound", tree);
        }
        loops++;
        inside.run();
        loops--;
        return null;
    }

    /** One of what must hold is "x < y" or the like, and x is given another value in the loop. */
    private static boolean isCounted(Tree condition, Tree loop) {
        if (condition instanceof ParenthesizedTree) {
            return isCounted(((ParenthesizedTree) condition).getExpression(), loop);
        }
        if (!(condition instanceof BinaryTree)) {
            return false;
        }
        BinaryTree two = (BinaryTree) condition;
        switch (two.getKind()) {
            case CONDITIONAL_AND:
                return isCounted(two.getLeftOperand(), loop) || isCounted(two.getRightOperand(), loop);
            case LESS_THAN:
            case LESS_THAN_EQUAL:
            case GREATER_THAN:
            case GREATER_THAN_EQUAL:
                return isStepped(two.getLeftOperand().toString(), loop);
            default:
                return false;
        }
    }

    private static boolean isStepped(String counter, Tree loop) {
        boolean[] found = new boolean[1];
        new com.sun.source.util.TreeScanner<Void, Void>() {
            @Override
            public Void visitUnary(UnaryTree tree, Void none) {
                boolean steps = tree.getKind() == Tree.Kind.POSTFIX_INCREMENT || tree.getKind() == Tree.Kind.POSTFIX_DECREMENT;
                found[0] |= steps && tree.getExpression().toString().equals(counter);
                return super.visitUnary(tree, none);
            }

            @Override
            public Void visitAssignment(AssignmentTree tree, Void none) {
                found[0] |= tree.getVariable().toString().equals(counter);
                return super.visitAssignment(tree, none);
            }

            @Override
            public Void visitCompoundAssignment(CompoundAssignmentTree tree, Void none) {
                found[0] |= tree.getVariable().toString().equals(counter);
                return super.visitCompoundAssignment(tree, none);
            }
        }.scan(loop, null);
        return found[0];
    }

    // 12: what is made

    @Override
    public Void visitNewClass(NewClassTree tree, Void none) {
        Element made = element();
        if (made == null || !isOwn(made)) {
            breach(4, "new " + tree.getIdentifier(), tree);
        }
        if (loops > 0) {
            breach(12, "made in a loop: " + tree, tree);
        }
        return super.visitNewClass(tree, none);
    }

    @Override
    public Void visitNewArray(NewArrayTree tree, Void none) {
        boolean inAField = getCurrentPath().getParentPath().getLeaf() instanceof VariableTree
            && getCurrentPath().getParentPath().getParentPath().getLeaf() instanceof ClassTree;
        if (!inAField) {
            breach(12, "a row made by a call: " + tree, tree);
        }
        return super.visitNewArray(tree, none);
    }
}
