import com.sun.source.tree.AssertTree;
import com.sun.source.tree.AssignmentTree;
import com.sun.source.tree.BinaryTree;
import com.sun.source.tree.BlockTree;
import com.sun.source.tree.ClassTree;
import com.sun.source.tree.CompilationUnitTree;
import com.sun.source.tree.CompoundAssignmentTree;
import com.sun.source.tree.ConditionalExpressionTree;
import com.sun.source.tree.DoWhileLoopTree;
import com.sun.source.tree.EnhancedForLoopTree;
import com.sun.source.tree.ExpressionTree;
import com.sun.source.tree.ForLoopTree;
import com.sun.source.tree.IfTree;
import com.sun.source.tree.ImportTree;
import com.sun.source.tree.LambdaExpressionTree;
import com.sun.source.tree.LiteralTree;
import com.sun.source.tree.MemberReferenceTree;
import com.sun.source.tree.MethodInvocationTree;
import com.sun.source.tree.MethodTree;
import com.sun.source.tree.NewArrayTree;
import com.sun.source.tree.NewClassTree;
import com.sun.source.tree.SynchronizedTree;
import com.sun.source.tree.ThrowTree;
import com.sun.source.tree.Tree;
import com.sun.source.tree.TryTree;
import com.sun.source.tree.UnaryTree;
import com.sun.source.tree.VariableTree;
import com.sun.source.tree.WhileLoopTree;
import com.sun.source.util.JavacTask;
import com.sun.source.util.TreePath;
import com.sun.source.util.TreePathScanner;
import com.sun.source.util.TreeScanner;
import com.sun.source.util.Trees;
import java.io.IOException;
import java.io.UncheckedIOException;
import java.net.URI;
import java.util.ArrayList;
import java.util.LinkedHashMap;
import java.util.LinkedHashSet;
import java.util.List;
import java.util.Map;
import java.util.Set;
import javax.lang.model.element.Element;
import javax.lang.model.element.ElementKind;
import javax.lang.model.element.Modifier;
import javax.lang.model.type.TypeMirror;
import javax.tools.JavaFileObject;
import javax.tools.SimpleJavaFileObject;
import javax.tools.ToolProvider;

/**
 * Holds a source text against those rules of ../shared/LANGUAGE.md that can be seen in it. Where a rule leaves more
 * than the program uses (library, loops, objects made in calls), this looks for what the program uses and no more.
 */
final class Language extends TreePathScanner<Void, Void> {
    private static final Set<String> IMPORTS = Set.of("java.util.Arrays", "java.util.NoSuchElementException");
    private static final Set<String> LIBRARY = Set.of("java.lang.Math.max(int,int)", "java.lang.Math.min(int,int)",
            "java.util.Arrays.fill(int[],int)",
            "java.lang.System.arraycopy(java.lang.Object,int,java.lang.Object,int,int)");
    private static final Set<String> EXCEPTIONS = Set.of("IllegalStateException", "IllegalArgumentException",
            "IndexOutOfBoundsException", "ArithmeticException", "UnsupportedOperationException",
            "NoSuchElementException", "RuntimeException");
    private static final Set<String> FIELD_TYPES = Set.of("int", "boolean", "int[]", "boolean[]");
    private static final Set<String> STATIC_TYPES = Set.of("int", "long", "boolean", "char", "java.lang.String");
    private static final int MOST_LINES = 60;
    private static final int MOST_PARAMETERS = 7;
    private static final int MOST_CLASSES = 12;
    private static final int MOST_FIELDS = 20;
    private static final int MOST_DEEP = 8;

    private final List<String> faults = new ArrayList<>();
    private final Map<Element, Set<Element>> calls = new LinkedHashMap<>();
    private final CompilationUnitTree unit;
    private final Trees trees;
    private int classes = 0;

    private Language(CompilationUnitTree unit, Trees trees) {
        this.unit = unit;
        this.trees = trees;
    }

    /** What is not as the rules say, each as "rule n, line m: what". */
    static List<String> faultsOf(String source) {
        JavaFileObject file = new SimpleJavaFileObject(URI.create("string:///PassPipeline.java"),
                JavaFileObject.Kind.SOURCE) {
            @Override
            public CharSequence getCharContent(boolean ignoreEncodingErrors) {
                return source;
            }
        };
        List<String> errors = new ArrayList<>();
        JavacTask task = (JavacTask) ToolProvider.getSystemJavaCompiler().getTask(null, null,
                told -> errors.add("javac: " + told), List.of("-proc:none"), null, List.of(file));
        try {
            CompilationUnitTree unit = task.parse().iterator().next();
            task.analyze();
            Language language = new Language(unit, Trees.instance(task));
            language.scan(unit, null);
            language.lookAtTheWhole(source);
            errors.addAll(language.faults);
        } catch (IOException e) {
            throw new UncheckedIOException(e);
        }
        return errors;
    }

    private void fault(int rule, Tree tree, String what) {
        long position = trees.getSourcePositions().getStartPosition(unit, tree);
        faults.add("rule " + rule + ", line " + unit.getLineMap().getLineNumber(position) + ": " + what);
    }

    private void faultIf(boolean wrong, int rule, Tree tree, String what) {
        if (wrong) {
            fault(rule, tree, what);
        }
    }

    private void lookAtTheWhole(String source) {
        faultIf(unit.getPackageName() != null, 1, unit, "a package line");
        faultIf(unit.getTypeDecls().size() != 1, 1, unit, "not one class");
        faultIf(source.chars().anyMatch(c -> c > 255), 3, unit, "characters beyond 255");
        faultIf(classes > MOST_CLASSES, 11, unit, classes + " classes");
        for (Element method : calls.keySet()) {
            int deep = depth(method, new LinkedHashSet<>());
            faultIf(deep > MOST_DEEP && deep < Integer.MAX_VALUE, 11, unit, method + " goes " + deep + " deep");
            faultIf(deep == Integer.MAX_VALUE, 8, unit, method + " comes back to itself or to what does");
        }
    }

    /** How many calls stand open at most when this one is made; the largest int if there is no such number. */
    private int depth(Element method, Set<Element> open) {
        if (!open.add(method)) {
            return Integer.MAX_VALUE;
        }
        int deepest = 0;
        for (Element called : calls.getOrDefault(method, Set.of())) {
            deepest = Math.max(deepest, depth(called, open));
        }
        open.remove(method);
        return deepest == Integer.MAX_VALUE ? deepest : deepest + 1;
    }

    @Override
    public Void visitImport(ImportTree tree, Void none) {
        String name = tree.getQualifiedIdentifier().toString();
        faultIf(!IMPORTS.contains(name), 4, tree, "import " + name);
        return super.visitImport(tree, none);
    }

    @Override
    public Void visitClass(ClassTree tree, Void none) {
        classes++;
        Set<Modifier> modifiers = tree.getModifiers().getFlags();
        if (getCurrentPath().getParentPath().getLeaf() == unit) {
            faultIf(!modifiers.equals(Set.of(Modifier.PUBLIC, Modifier.FINAL)), 1, tree, "not public and final");
        } else {
            boolean seen = modifiers.contains(Modifier.PUBLIC) || modifiers.contains(Modifier.PROTECTED);
            faultIf(seen || !modifiers.contains(Modifier.STATIC), 1, tree, tree.getSimpleName() + " inside");
        }
        int fields = 0;
        for (Tree member : tree.getMembers()) {
            if (member instanceof VariableTree && !isStatic((VariableTree) member)) {
                fields++;
            }
            faultIf(member instanceof BlockTree && ((BlockTree) member).isStatic(), 5, member, "a static block");
        }
        faultIf(fields > MOST_FIELDS, 11, tree, fields + " fields");
        return super.visitClass(tree, none);
    }

    private static boolean isStatic(VariableTree tree) {
        return tree.getModifiers().getFlags().contains(Modifier.STATIC);
    }

    @Override
    public Void visitVariable(VariableTree tree, Void none) {
        TypeMirror type = trees.getTypeMirror(new TreePath(getCurrentPath(), tree.getType()));
        String name = type.toString();
        boolean isOwn = name.startsWith("PassPipeline.");
        if (isStatic(tree)) {
            boolean isFinal = tree.getModifiers().getFlags().contains(Modifier.FINAL);
            faultIf(!isFinal || !STATIC_TYPES.contains(name), 5, tree, "static " + tree.getName());
        } else {
            faultIf(!isOwn && !FIELD_TYPES.contains(name), 3, tree, name + " " + tree.getName());
        }
        return super.visitVariable(tree, none);
    }

    @Override
    public Void visitMethod(MethodTree tree, Void none) {
        calls.put(trees.getElement(getCurrentPath()), new LinkedHashSet<>());
        faultIf(tree.getParameters().size() > MOST_PARAMETERS, 11, tree, tree.getName() + " has many parameters");
        faultIf(lines(tree) > MOST_LINES, 11, tree, tree.getName() + " has " + lines(tree) + " lines");
        return super.visitMethod(tree, none);
    }

    private long lines(Tree tree) {
        long start = trees.getSourcePositions().getStartPosition(unit, tree);
        long end = trees.getSourcePositions().getEndPosition(unit, tree);
        return unit.getLineMap().getLineNumber(end) - unit.getLineMap().getLineNumber(start) + 1;
    }

    /** The method that the present place is in; null in the first value of a field. */
    private Element openMethod() {
        for (Tree tree : getCurrentPath()) {
            if (tree instanceof MethodTree) {
                return trees.getElement(TreePath.getPath(unit, tree));
            }
        }
        return null;
    }

    private boolean isInConstructor() {
        Element method = openMethod();
        return method != null && method.getKind() == ElementKind.CONSTRUCTOR;
    }

    private boolean isInCall() {
        return openMethod() != null && !isInConstructor();
    }

    @Override
    public Void visitMethodInvocation(MethodInvocationTree tree, Void none) {
        Element called = trees.getElement(getCurrentPath());
        String owner = called.getEnclosingElement().toString();
        boolean isSuper = tree.getMethodSelect().toString().equals("super");
        if (owner.startsWith("PassPipeline")) {
            calls.getOrDefault(openMethod(), new LinkedHashSet<>()).add(called);
        } else {
            faultIf(!isSuper && !LIBRARY.contains(owner + "." + called), 4, tree, owner + "." + called);
        }
        return super.visitMethodInvocation(tree, none);
    }

    @Override
    public Void visitNewClass(NewClassTree tree, Void none) {
        boolean isThrown = getCurrentPath().getParentPath().getLeaf() instanceof ThrowTree;
        faultIf(isInCall() && !isThrown, 12, tree, "a call makes an object");
        faultIf(tree.getClassBody() != null, 2, tree, "a class without a name");
        return super.visitNewClass(tree, none);
    }

    @Override
    public Void visitNewArray(NewArrayTree tree, Void none) {
        faultIf(isInCall(), 12, tree, "a call makes an array");
        return super.visitNewArray(tree, none);
    }

    @Override
    public Void visitThrow(ThrowTree tree, Void none) {
        boolean isNew = tree.getExpression() instanceof NewClassTree;
        faultIf(!isNew || !isPlain((NewClassTree) tree.getExpression()), 6, tree, tree.toString());
        faultIf(isInConstructor(), 6, tree, "a throw in a constructor");
        return super.visitThrow(tree, none);
    }

    private static boolean isPlain(NewClassTree tree) {
        List<? extends ExpressionTree> texts = tree.getArguments();
        boolean isWritten = texts.isEmpty() || texts.size() == 1 && texts.get(0) instanceof LiteralTree;
        return isWritten && EXCEPTIONS.contains(tree.getIdentifier().toString());
    }

    @Override
    public Void visitTry(TryTree tree, Void none) {
        fault(6, tree, "try");
        return super.visitTry(tree, none);
    }

    @Override
    public Void visitSynchronized(SynchronizedTree tree, Void none) {
        fault(6, tree, "synchronized");
        return super.visitSynchronized(tree, none);
    }

    @Override
    public Void visitAssert(AssertTree tree, Void none) {
        fault(6, tree, "assert");
        return super.visitAssert(tree, none);
    }

    @Override
    public Void visitLambdaExpression(LambdaExpressionTree tree, Void none) {
        fault(2, tree, "a lambda");
        return super.visitLambdaExpression(tree, none);
    }

    @Override
    public Void visitMemberReference(MemberReferenceTree tree, Void none) {
        fault(2, tree, "a method reference");
        return super.visitMemberReference(tree, none);
    }

    @Override
    public Void visitBinary(BinaryTree tree, Void none) {
        boolean isText = trees.getTypeMirror(getCurrentPath()).toString().equals("java.lang.String");
        faultIf(isText, 10, tree, "texts joined by +");
        boolean divides = tree.getKind() == Tree.Kind.DIVIDE || tree.getKind() == Tree.Kind.REMAINDER;
        faultIf(divides && !isLookedAt(tree.getRightOperand()), 7, tree, "a divisor that is not looked at");
        return super.visitBinary(tree, none);
    }

    /** Whether the divisor is written out, or compared with 0 in a condition round the present place. */
    private boolean isLookedAt(ExpressionTree divisor) {
        if (divisor instanceof LiteralTree) {
            return !divisor.toString().equals("0");
        }
        String look = divisor + " == 0";
        String otherLook = divisor + " != 0";
        for (Tree tree : getCurrentPath()) {
            String condition = "";
            if (tree instanceof ConditionalExpressionTree) {
                condition = ((ConditionalExpressionTree) tree).getCondition().toString();
            } else if (tree instanceof IfTree) {
                condition = ((IfTree) tree).getCondition().toString();
            }
            if (condition.contains(look) || condition.contains(otherLook)) {
                return true;
            }
        }
        return false;
    }

    @Override
    public Void visitForLoop(ForLoopTree tree, Void none) {
        boolean counts = tree.getInitializer().size() == 1 && tree.getUpdate().size() == 1
                && tree.getCondition() != null;
        String counter = counts && tree.getInitializer().get(0) instanceof VariableTree
                ? ((VariableTree) tree.getInitializer().get(0)).getName().toString() : "";
        boolean bounded = counts && !counter.isEmpty() && tree.getUpdate().get(0).toString().startsWith(counter)
                && tree.getCondition().toString().matches(".*\\b" + counter + " (<|<=|>=) .*");
        faultIf(!bounded, 9, tree, "a loop without a counter against a bound");
        faultIf(bounded && isChangedIn(counter, tree.getStatement()), 9, tree, "a counter that its loop changes");
        return super.visitForLoop(tree, none);
    }

    private static boolean isChangedIn(String counter, Tree body) {
        boolean[] changed = {false};
        new TreeScanner<Void, Void>() {
            @Override
            public Void visitAssignment(AssignmentTree tree, Void none) {
                changed[0] |= tree.getVariable().toString().equals(counter);
                return super.visitAssignment(tree, none);
            }

            @Override
            public Void visitUnary(UnaryTree tree, Void none) {
                boolean changes = tree.getKind().toString().contains("CREMENT");
                changed[0] |= changes && tree.getExpression().toString().equals(counter);
                return super.visitUnary(tree, none);
            }

            @Override
            public Void visitCompoundAssignment(CompoundAssignmentTree tree, Void none) {
                changed[0] |= tree.getVariable().toString().equals(counter);
                return super.visitCompoundAssignment(tree, none);
            }
        }.scan(body, null);
        return changed[0];
    }

    @Override
    public Void visitWhileLoop(WhileLoopTree tree, Void none) {
        fault(9, tree, "a loop without a counter");
        return super.visitWhileLoop(tree, none);
    }

    @Override
    public Void visitDoWhileLoop(DoWhileLoopTree tree, Void none) {
        fault(9, tree, "a loop without a counter");
        return super.visitDoWhileLoop(tree, none);
    }

    @Override
    public Void visitEnhancedForLoop(EnhancedForLoopTree tree, Void none) {
        TypeMirror over = trees.getTypeMirror(new TreePath(getCurrentPath(), tree.getExpression()));
        faultIf(!over.toString().endsWith("[]"), 12, tree, "a loop over a list");
        return super.visitEnhancedForLoop(tree, none);
    }
}
