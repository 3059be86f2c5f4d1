import com.sun.source.tree.ClassTree;
import com.sun.source.tree.CompilationUnitTree;
import com.sun.source.tree.MethodInvocationTree;
import com.sun.source.tree.MethodTree;
import com.sun.source.tree.NewArrayTree;
import com.sun.source.tree.NewClassTree;
import com.sun.source.util.JavacTask;
import com.sun.source.util.TreePathScanner;
import com.sun.source.util.Trees;
import java.io.IOException;
import java.nio.file.Path;
import java.util.ArrayList;
import java.util.HashMap;
import java.util.List;
import java.util.Map;
import java.util.Set;
import java.util.TreeSet;
import javax.lang.model.element.Element;
import javax.lang.model.element.ElementKind;
import javax.tools.JavaCompiler;
import javax.tools.StandardJavaFileManager;
import javax.tools.ToolProvider;

/** What of LANGUAGE.md can be seen in who calls whom: how deep calls go, what calls itself, the library, what is made. */
public final class CallsTest {
    private static final int DEEPEST = 8;
    private static final Set<String> MAY_CALL_ITSELF = Set.of("Anew.count");
    private static final Set<String> LIBRARY = Set.of("Math.max", "Math.min", "Arrays.fill", "Arrays.copyOf");
    private static final Set<String> MAY_BE_THROWN = Set.of("IllegalStateException", "IllegalArgumentException",
        "IndexOutOfBoundsException");

    private static final Map<String, Set<String>> calls = new HashMap<>();
    private static final Map<String, Integer> depths = new HashMap<>();
    private static final Set<String> inner = new TreeSet<>();
    private static int wrong = 0;

    private static void must(boolean holds, String what) {
        if (!holds) {
            wrong++;
            System.out.println("not so: " + what);
        }
    }

    /** Notes each call and each new object of the source, by the method in which it stands. */
    private static final class Reader extends TreePathScanner<Void, String> {
        private final Trees trees;

        Reader(Trees trees) {
            this.trees = trees;
        }

        @Override
        public Void visitClass(ClassTree tree, String method) {
            inner.add(tree.getSimpleName().toString());
            return super.visitClass(tree, method);
        }

        @Override
        public Void visitMethod(MethodTree tree, String method) {
            String name = nameOf(trees.getElement(getCurrentPath()));
            must(!calls.containsKey(name), name + " stands there once");
            calls.put(name, new TreeSet<>());
            return super.visitMethod(tree, name);
        }

        @Override
        public Void visitMethodInvocation(MethodInvocationTree tree, String method) {
            // the call of the class above, that each constructor begins with, is no call of the text
            String name = nameOf(trees.getElement(getCurrentPath()));
            if (method != null && !name.equals("Object.<init>")) calls.get(method).add(name);
            return super.visitMethodInvocation(tree, method);
        }

        @Override
        public Void visitNewClass(NewClassTree tree, String method) {
            String name = tree.getIdentifier().toString();
            must(method == null || MAY_BE_THROWN.contains(name), method + " makes no " + name);
            return super.visitNewClass(tree, method);
        }

        @Override
        public Void visitNewArray(NewArrayTree tree, String method) {
            must(method == null, method + " makes no array");
            return super.visitNewArray(tree, method);
        }
    }

    private static String nameOf(Element element) {
        if (element == null || element.getKind() != ElementKind.METHOD && element.getKind() != ElementKind.CONSTRUCTOR) {
            return "unknown " + element;
        }
        return element.getEnclosingElement().getSimpleName() + "." + element.getSimpleName();
    }

    private static void read(Path file) throws IOException {
        JavaCompiler compiler = ToolProvider.getSystemJavaCompiler();
        try (StandardJavaFileManager files = compiler.getStandardFileManager(null, null, null)) {
            JavacTask task = (JavacTask) compiler.getTask(null, files, null, List.of("-proc:none"), null,
                files.getJavaFileObjects(file));
            List<CompilationUnitTree> units = new ArrayList<>();
            for (CompilationUnitTree unit : task.parse()) units.add(unit);
            task.analyze();
            for (CompilationUnitTree unit : units) new Reader(Trees.instance(task)).scan(unit, null);
        }
    }

    /** How many methods stand open at once below this one, with it; a method that calls itself counts once. */
    private static int depthOf(String method, List<String> open) {
        if (depths.containsKey(method)) return depths.get(method);
        open.add(method);
        int deepest = 0;
        for (String next : calls.get(method)) {
            if (!calls.containsKey(next)) {
                must(LIBRARY.contains(next), method + " calls " + next + ", which the class does not use so far");
            } else if (open.contains(next)) {
                must(next.equals(method) && MAY_CALL_ITSELF.contains(next), next + " does not come back to itself by " + open);
            } else {
                deepest = Math.max(deepest, depthOf(next, open));
            }
        }
        open.remove(open.size() - 1);
        depths.put(method, deepest + 1);
        return deepest + 1;
    }

    public static void main(String[] args) throws IOException {
        read(Path.of(args.length > 0 ? args[0] : ".", "src/main/java/Rackword.java"));
        must(inner.size() == 11 && calls.containsKey("Sweep.go") && calls.containsKey("Rackword.play"), "all was read: " + inner);
        int deepest = 0;
        for (String method : new TreeSet<>(calls.keySet())) {
            int depth = depthOf(method, new ArrayList<>());
            must(depth <= DEEPEST, method + " goes " + depth + " deep");
            deepest = Math.max(deepest, depth);
        }
        System.out.println(calls.size() + " methods, " + deepest + " deep, "
            + (wrong == 0 ? "as the rules have it" : wrong + " things not so"));
        if (wrong > 0) System.exit(1);
    }
}
