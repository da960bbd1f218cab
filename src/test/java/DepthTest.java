import com.sun.source.tree.CompilationUnitTree;
import com.sun.source.tree.MethodInvocationTree;
import com.sun.source.tree.MethodTree;
import com.sun.source.tree.NewClassTree;
import com.sun.source.util.JavacTask;
import com.sun.source.util.TreePathScanner;
import com.sun.source.util.Trees;
import java.nio.file.Path;
import java.util.HashMap;
import java.util.List;
import java.util.Map;
import java.util.Set;
import java.util.TreeMap;
import java.util.TreeSet;
import javax.lang.model.element.Element;
import javax.tools.JavaCompiler;
import javax.tools.StandardJavaFileManager;
import javax.tools.ToolProvider;

/** Rules 8 and 11 of LANGUAGE.md: no method comes to itself again, and calls go at most eight deep. */
public final class DepthTest {
    private static final int DEEPEST = 8;
    private static final Map<String, Set<String>> CALLS = new TreeMap<>();
    private static final Map<String, Integer> DEPTHS = new HashMap<>();

    public static void main(String[] args) throws Exception {
        read(Path.of(System.getProperty("latemover.source", "src/main/java/LateMover.java")));
        Subject.due("methods were found", CALLS.size() > 100, true);
        for (String method : CALLS.keySet()) {
            int depth = depthOf(method, 0);
            Subject.due("calls from " + method + " on are " + depth + " deep", depth <= DEEPEST, true);
        }
        Subject.finish("DepthTest");
    }

    private static void read(Path source) throws Exception {
        JavaCompiler compiler = ToolProvider.getSystemJavaCompiler();
        try (StandardJavaFileManager files = compiler.getStandardFileManager(null, null, null)) {
            List<String> options = List.of("-proc:none");
            JavacTask task = (JavacTask) compiler.getTask(null, files, null, options, null, files.getJavaFileObjects(source));
            Iterable<? extends CompilationUnitTree> units = task.parse();
            task.analyze();
            for (CompilationUnitTree unit : units) {
                new Scanner(Trees.instance(task)).scan(unit, null);
            }
        }
    }

    private static int depthOf(String method, int level) {
        if (level > CALLS.size()) {
            Subject.due(method + " comes to itself again", true, false);
            return 0;
        }
        if (!DEPTHS.containsKey(method)) {
            int most = 0;
            for (String called : CALLS.get(method)) {
                most = Math.max(most, CALLS.containsKey(called) ? depthOf(called, level + 1) : 0);
            }
            DEPTHS.put(method, most + 1);
        }
        return DEPTHS.get(method);
    }

    /** Which methods each method calls. */
    private static final class Scanner extends TreePathScanner<Void, String> {
        private final Trees trees;

        Scanner(Trees trees) {
            this.trees = trees;
        }

        private String here() {
            Element element = trees.getElement(getCurrentPath());
            return element.getEnclosingElement() + "." + element;
        }

        @Override
        public Void visitMethod(MethodTree tree, String caller) {
            CALLS.put(here(), new TreeSet<>());
            return super.visitMethod(tree, here());
        }

        @Override
        public Void visitMethodInvocation(MethodInvocationTree tree, String caller) {
            note(caller);
            return super.visitMethodInvocation(tree, caller);
        }

        @Override
        public Void visitNewClass(NewClassTree tree, String caller) {
            note(caller);
            return super.visitNewClass(tree, caller);
        }

        private void note(String caller) {
            if (caller != null) {
                CALLS.get(caller).add(here());
            }
        }
    }
}
