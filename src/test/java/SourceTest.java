import com.sun.source.tree.ClassTree;
import com.sun.source.tree.CompilationUnitTree;
import com.sun.source.tree.ForLoopTree;
import com.sun.source.tree.MethodInvocationTree;
import com.sun.source.tree.MethodTree;
import com.sun.source.tree.NewArrayTree;
import com.sun.source.tree.NewClassTree;
import com.sun.source.tree.Tree;
import com.sun.source.tree.TypeCastTree;
import com.sun.source.tree.VariableTree;
import com.sun.source.util.JavacTask;
import com.sun.source.util.TreePath;
import com.sun.source.util.TreePathScanner;
import com.sun.source.util.Trees;
import java.io.IOException;
import java.nio.file.Path;
import java.util.HashMap;
import java.util.HashSet;
import java.util.LinkedHashMap;
import java.util.LinkedHashSet;
import java.util.List;
import java.util.Map;
import java.util.Set;
import javax.lang.model.element.Element;
import javax.lang.model.element.ElementKind;
import javax.lang.model.element.ExecutableElement;
import javax.lang.model.element.TypeElement;
import javax.lang.model.type.TypeMirror;
import javax.lang.model.util.Elements;
import javax.tools.JavaCompiler;
import javax.tools.StandardJavaFileManager;
import javax.tools.ToolProvider;

/** What the compiler sees of ../shared/LANGUAGE.md: kinds of code, the library's calls, who calls whom how deep. */
public final class SourceTest {
    private static final Check CHECK = new Check();
    private static final Path SOURCE = Path.of("src/main/java/NeverCross.java");
    private static final Set<Tree.Kind> FORBIDDEN = Set.of(Tree.Kind.THROW, Tree.Kind.TRY, Tree.Kind.SYNCHRONIZED,
        Tree.Kind.ASSERT, Tree.Kind.LAMBDA_EXPRESSION, Tree.Kind.MEMBER_REFERENCE, Tree.Kind.INSTANCE_OF,
        Tree.Kind.STRING_LITERAL, Tree.Kind.DOUBLE_LITERAL, Tree.Kind.FLOAT_LITERAL,
        Tree.Kind.WHILE_LOOP, Tree.Kind.DO_WHILE_LOOP, Tree.Kind.SWITCH_EXPRESSION);
    private static final Set<String> LIBRARY = Set.of("java.lang.Math.max", "java.lang.Math.min",
        "java.lang.Integer.bitCount", "java.lang.System.arraycopy", "java.util.Arrays.fill");
    private static final int DEEPEST = 8;

    private final Trees trees;
    private final Elements elements;
    private final Map<ExecutableElement, Set<ExecutableElement>> calls = new LinkedHashMap<>();
    private final Map<ExecutableElement, Integer> depths = new HashMap<>();

    private SourceTest(JavacTask task) {
        trees = Trees.instance(task);
        elements = task.getElements();
    }

    public static void main(String[] args) throws IOException {
        JavaCompiler compiler = ToolProvider.getSystemJavaCompiler();
        try (StandardJavaFileManager files = compiler.getStandardFileManager(null, null, null)) {
            JavacTask task = (JavacTask) compiler.getTask(null, files, null, List.of("-proc:none", "--release", "17"),
                null, files.getJavaFileObjects(SOURCE));
            Iterable<? extends CompilationUnitTree> units = task.parse();
            task.analyze();
            SourceTest test = new SourceTest(task);
            for (CompilationUnitTree unit : units) {
                test.new Reader().scan(unit, null);
            }
            test.callDepths();
        }
        CHECK.end("SourceTest");
    }

    /** Looks at every piece of code, and notes which method calls which. */
    private final class Reader extends TreePathScanner<Void, Void> {
        @Override
        public Void scan(Tree tree, Void none) {
            if (tree != null) {
                CHECK.yes("rules 2, 3, 6, 9: no " + tree.getKind(), !FORBIDDEN.contains(tree.getKind()));
            }
            return super.scan(tree, none);
        }

        @Override
        public Void visitClass(ClassTree tree, Void none) {
            Tree.Kind above = getCurrentPath().getParentPath().getLeaf().getKind();
            CHECK.yes("rule 2: neither local nor without a name: " + tree.getSimpleName(),
                above == Tree.Kind.COMPILATION_UNIT || above == Tree.Kind.CLASS);
            return super.visitClass(tree, none);
        }

        @Override
        public Void visitMethod(MethodTree tree, Void none) {
            ExecutableElement method = (ExecutableElement) trees.getElement(getCurrentPath());
            calls.computeIfAbsent(method, key -> new LinkedHashSet<>());
            CHECK.yes("rule 11: parameters of " + method, tree.getParameters().size() <= 7);
            return super.visitMethod(tree, none);
        }

        @Override
        public Void visitForLoop(ForLoopTree tree, Void none) {
            CHECK.yes("rule 9: a bound of each loop", tree.getCondition() != null && !tree.getUpdate().isEmpty());
            return super.visitForLoop(tree, none);
        }

        @Override
        public Void visitVariable(VariableTree tree, Void none) {
            TypeMirror type = trees.getTypeMirror(new TreePath(getCurrentPath(), tree.getType()));
            boolean own = type.toString().replace("[]", "").startsWith("NeverCross");
            boolean number = Set.of("int", "long", "boolean", "int[]", "int[][]").contains(type.toString());
            CHECK.yes("rule 3: the type of " + tree.getName(), own || number);
            return super.visitVariable(tree, none);
        }

        @Override
        public Void visitTypeCast(TypeCastTree tree, Void none) {
            CHECK.yes("rule 6: a cast of numbers: " + tree, tree.getType().getKind() == Tree.Kind.PRIMITIVE_TYPE);
            return super.visitTypeCast(tree, none);
        }

        @Override
        public Void visitNewClass(NewClassTree tree, Void none) {
            CHECK.yes("rule 12: objects are made with the object alone: " + tree, madeWithTheObject());
            CHECK.yes("rule 2: a class with a name: " + tree, tree.getClassBody() == null);
            return super.visitNewClass(tree, none);
        }

        @Override
        public Void visitNewArray(NewArrayTree tree, Void none) {
            CHECK.yes("rule 12: rows are made with the object alone: " + tree, madeWithTheObject());
            return super.visitNewArray(tree, none);
        }

        private boolean madeWithTheObject() {
            for (TreePath at = getCurrentPath(); at != null; at = at.getParentPath()) {
                if (at.getLeaf() instanceof MethodTree method) {
                    return method.getName().contentEquals("<init>");
                }
            }
            return true;
        }

        @Override
        public Void visitMethodInvocation(MethodInvocationTree tree, Void none) {
            Element called = trees.getElement(new TreePath(getCurrentPath(), tree.getMethodSelect()));
            if (called instanceof ExecutableElement method) {
                String type = ((TypeElement) method.getEnclosingElement()).getQualifiedName().toString();
                boolean constructor = method.getKind() == ElementKind.CONSTRUCTOR;
                if (type.startsWith("NeverCross")) {
                    noteCall(method);
                } else {
                    String name = type + "." + method.getSimpleName();
                    CHECK.yes("rule 4: " + name, constructor || LIBRARY.contains(name));
                }
            }
            return super.visitMethodInvocation(tree, none);
        }

        private void noteCall(ExecutableElement called) {
            for (TreePath at = getCurrentPath(); at != null; at = at.getParentPath()) {
                if (at.getLeaf() instanceof MethodTree) {
                    ExecutableElement caller = (ExecutableElement) trees.getElement(at);
                    calls.computeIfAbsent(caller, key -> new LinkedHashSet<>()).add(called);
                    return;
                }
            }
        }
    }

    /** A call of a method is a call of all that override it, too. */
    private void callDepths() {
        for (Map.Entry<ExecutableElement, Set<ExecutableElement>> entry : calls.entrySet()) {
            for (ExecutableElement called : List.copyOf(entry.getValue())) {
                for (ExecutableElement other : calls.keySet()) {
                    if (elements.overrides(other, called, (TypeElement) other.getEnclosingElement())) {
                        entry.getValue().add(other);
                    }
                }
            }
        }
        int deepest = 0;
        for (ExecutableElement method : calls.keySet()) {
            int depth = depthFrom(method, new HashSet<>());
            deepest = Math.max(deepest, depth);
            CHECK.yes("rule 11: " + method + " goes " + depth + " deep", depth <= DEEPEST);
        }
        CHECK.yes("calls were looked at", calls.size() > 60 && deepest > 4);
        System.out.println("methods: " + calls.size() + ", calls at most " + deepest + " deep");
    }

    /** A method that calls itself counts once; two that call one another there are none of. */
    private int depthFrom(ExecutableElement method, Set<ExecutableElement> open) {
        if (depths.containsKey(method)) {
            return depths.get(method);
        }
        CHECK.yes("no methods that call one another: " + method, open.add(method));
        int deepest = 0;
        for (ExecutableElement called : calls.getOrDefault(method, Set.of())) {
            if (!called.equals(method) && open.size() < 100) {
                deepest = Math.max(deepest, depthFrom(called, open));
            }
        }
        open.remove(method);
        depths.put(method, deepest + 1);
        return deepest + 1;
    }
}
