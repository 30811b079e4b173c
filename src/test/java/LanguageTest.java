import com.sun.source.tree.AssertTree;
import com.sun.source.tree.BinaryTree;
import com.sun.source.tree.BlockTree;
import com.sun.source.tree.ClassTree;
import com.sun.source.tree.CompilationUnitTree;
import com.sun.source.tree.CompoundAssignmentTree;
import com.sun.source.tree.LambdaExpressionTree;
import com.sun.source.tree.MemberReferenceTree;
import com.sun.source.tree.MethodInvocationTree;
import com.sun.source.tree.MethodTree;
import com.sun.source.tree.NewClassTree;
import com.sun.source.tree.SynchronizedTree;
import com.sun.source.tree.ThrowTree;
import com.sun.source.tree.Tree;
import com.sun.source.tree.TryTree;
import com.sun.source.tree.VariableTree;
import com.sun.source.util.JavacTask;
import com.sun.source.util.TreePath;
import com.sun.source.util.TreePathScanner;
import com.sun.source.util.Trees;
import java.io.IOException;
import java.nio.file.Path;
import java.util.HashMap;
import java.util.HashSet;
import java.util.List;
import java.util.Map;
import java.util.Set;
import javax.lang.model.element.Element;
import javax.lang.model.element.ElementKind;
import javax.lang.model.element.Modifier;
import javax.lang.model.element.VariableElement;
import javax.lang.model.type.TypeMirror;
import javax.tools.JavaCompiler;
import javax.tools.StandardJavaFileManager;
import javax.tools.ToolProvider;

/**
 * Rules of LANGUAGE.md that can be read off the source: of 2, 3, 4, 5, 6 and 10 what they rule out, the
 * numbers of 11, and 8 as the class keeps it: without any recursion. Rules 7 and 9 are for the reader.
 */
public final class LanguageTest extends TreePathScanner<Void, Void> {
    private static final Path SOURCE = Path.of("src/main/java/WeaveCore.java");
    private static final int MOST_LINES = 60;
    private static final int MOST_PARAMETERS = 7;
    private static final int MOST_DEEP = 8;
    private static final int MOST_CLASSES = 12;
    private static final int MOST_FIELDS = 20;

    /** Rule 4, as far as the class could need it. */
    private static final Map<String, Set<String>> LIBRARY = Map.of(
            "java.lang.Object", Set.of("<init>"),
            "java.util.ArrayList", Set.of("<init>", "add", "get", "set", "remove", "size", "isEmpty", "clear"),
            "java.lang.Math", Set.of("max", "min", "abs", "floorDiv", "floorMod"),
            "java.lang.System", Set.of("arraycopy"),
            "java.util.Arrays", Set.of("copyOf", "copyOfRange", "fill"),
            "Array", Set.of("clone"));
    /** Rule 3, likewise: what is not the class's own. */
    private static final Set<String> TYPES = Set.of("int", "long", "short", "byte", "char", "boolean");
    /** Rule 6. */
    private static final Set<String> EXCEPTIONS = Set.of("java.lang.IllegalStateException",
            "java.lang.IllegalArgumentException", "java.lang.IndexOutOfBoundsException",
            "java.lang.ArithmeticException", "java.lang.UnsupportedOperationException",
            "java.util.NoSuchElementException", "java.lang.RuntimeException");

    private final Trees trees;
    private final CompilationUnitTree unit;
    private final Map<Element, Set<Element>> calls = new HashMap<>();
    private Element method;
    private int classes = 0;

    private LanguageTest(Trees trees, CompilationUnitTree unit) {
        this.trees = trees;
        this.unit = unit;
    }

    public static void main(String[] args) throws IOException {
        JavaCompiler compiler = ToolProvider.getSystemJavaCompiler();
        try (StandardJavaFileManager files = compiler.getStandardFileManager(null, null, null)) {
            JavacTask task = (JavacTask) compiler.getTask(null, files, null, List.of("-proc:none"), null,
                    files.getJavaFileObjects(SOURCE));
            CompilationUnitTree unit = task.parse().iterator().next();
            task.analyze();
            LanguageTest test = new LanguageTest(Trees.instance(task), unit);
            test.scan(unit, null);
            test.lookAtWhatWasCounted();
        }
        Check.end();
    }

    private void lookAtWhatWasCounted() {
        keeps("11: the file has at most some twelve classes", classes <= MOST_CLASSES, unit);
        for (Element one : calls.keySet()) {
            keeps("8, 11: no recursion, at most eight deep: " + one, depth(one, 1) <= MOST_DEEP, unit);
        }
    }

    private int depth(Element caller, int above) {
        if (above > MOST_DEEP) {
            return 1;
        }
        int deepest = 0;
        for (Element called : calls.getOrDefault(caller, Set.of())) {
            deepest = Math.max(deepest, depth(called, above + 1));
        }
        return deepest + 1;
    }

    private void keeps(String rule, boolean kept, Tree where) {
        long line = unit.getLineMap().getLineNumber(trees.getSourcePositions().getStartPosition(unit, where));
        Check.same("line " + line + " to rule " + rule, kept ? "kept" : "broken", "kept");
    }

    private Element element() {
        return trees.getElement(getCurrentPath());
    }

    private static boolean isOwn(Element element) {
        Element outer = element;
        while (outer.getEnclosingElement() != null && outer.getEnclosingElement().getKind() != ElementKind.PACKAGE) {
            outer = outer.getEnclosingElement();
        }
        return outer.getSimpleName().contentEquals("WeaveCore");
    }

    private void lookAtCall(Element called, Tree where) {
        if (isOwn(called)) {
            calls.computeIfAbsent(method, key -> new HashSet<>()).add(called);
            return;
        }
        String owner = called.getEnclosingElement().toString();
        Set<String> names = LIBRARY.getOrDefault(owner, Set.of());
        keeps("4: " + owner + "." + called, names.contains(called.getSimpleName().toString()), where);
    }

    private static boolean isAllowed(TypeMirror type) {
        String name = type.toString().replace("[]", "");
        if (name.startsWith("java.util.ArrayList<")) {
            name = name.substring(name.indexOf('<') + 1, name.length() - 1);
        }
        return TYPES.contains(name) || name.startsWith("WeaveCore");
    }

    @Override
    public Void visitClass(ClassTree tree, Void none) {
        classes++;
        int fields = 0;
        for (Tree member : tree.getMembers()) {
            if (member instanceof VariableTree field && !field.getModifiers().getFlags().contains(Modifier.STATIC)) {
                fields++;
            }
            keeps("5: no initialiser block", !(member instanceof BlockTree), member);
        }
        keeps("11: a class has some twenty fields", fields <= MOST_FIELDS, tree);
        keeps("2: a class inside is static", element().getModifiers().contains(Modifier.STATIC) || classes == 1, tree);
        return super.visitClass(tree, none);
    }

    @Override
    public Void visitMethod(MethodTree tree, Void none) {
        Element outer = method;
        method = element();
        calls.computeIfAbsent(method, key -> new HashSet<>());
        long start = trees.getSourcePositions().getStartPosition(unit, tree);
        long end = trees.getSourcePositions().getEndPosition(unit, tree);
        long lines = unit.getLineMap().getLineNumber(end) - unit.getLineMap().getLineNumber(start) + 1;
        keeps("11: some sixty lines", lines <= MOST_LINES, tree);
        keeps("11: at most seven parameters", tree.getParameters().size() <= MOST_PARAMETERS, tree);
        super.visitMethod(tree, none);
        method = outer;
        return none;
    }

    @Override
    public Void visitVariable(VariableTree tree, Void none) {
        Element element = element();
        keeps("3: " + element.asType() + " " + element, isAllowed(element.asType()), tree);
        if (element.getModifiers().contains(Modifier.STATIC)) {
            keeps("5: a static field is a constant", ((VariableElement) element).getConstantValue() != null, tree);
        }
        return super.visitVariable(tree, none);
    }

    @Override
    public Void visitMethodInvocation(MethodInvocationTree tree, Void none) {
        lookAtCall(element(), tree);
        return super.visitMethodInvocation(tree, none);
    }

    @Override
    public Void visitNewClass(NewClassTree tree, Void none) {
        if (!EXCEPTIONS.contains(element().getEnclosingElement().toString())) {
            lookAtCall(element(), tree);
        }
        return super.visitNewClass(tree, none);
    }

    @Override
    public Void visitThrow(ThrowTree tree, Void none) {
        TypeMirror type = trees.getTypeMirror(new TreePath(getCurrentPath(), tree.getExpression()));
        boolean fresh = tree.getExpression() instanceof NewClassTree && EXCEPTIONS.contains(type.toString());
        keeps("6: throws a new one of these", fresh, tree);
        keeps("6: no throw in a constructor", method.getKind() != ElementKind.CONSTRUCTOR, tree);
        return super.visitThrow(tree, none);
    }

    @Override
    public Void visitBinary(BinaryTree tree, Void none) {
        TypeMirror type = trees.getTypeMirror(getCurrentPath());
        keeps("10: texts are not joined by +", isAllowed(type), tree);
        return super.visitBinary(tree, none);
    }

    @Override
    public Void visitCompoundAssignment(CompoundAssignmentTree tree, Void none) {
        keeps("10: texts are not joined by +=", isAllowed(trees.getTypeMirror(getCurrentPath())), tree);
        return super.visitCompoundAssignment(tree, none);
    }

    @Override
    public Void visitLambdaExpression(LambdaExpressionTree tree, Void none) {
        keeps("2: no lambda", false, tree);
        return super.visitLambdaExpression(tree, none);
    }

    @Override
    public Void visitMemberReference(MemberReferenceTree tree, Void none) {
        keeps("2: no method reference", false, tree);
        return super.visitMemberReference(tree, none);
    }

    @Override
    public Void visitTry(TryTree tree, Void none) {
        keeps("6: no finally, no resources", tree.getFinallyBlock() == null && tree.getResources().isEmpty(), tree);
        return super.visitTry(tree, none);
    }

    @Override
    public Void visitSynchronized(SynchronizedTree tree, Void none) {
        keeps("6: no synchronized", false, tree);
        return super.visitSynchronized(tree, none);
    }

    @Override
    public Void visitAssert(AssertTree tree, Void none) {
        keeps("6: no assert", false, tree);
        return super.visitAssert(tree, none);
    }
}
