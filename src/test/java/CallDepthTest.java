import com.sun.source.tree.ClassTree;
import com.sun.source.tree.MethodInvocationTree;
import com.sun.source.tree.MethodTree;
import com.sun.source.tree.NewClassTree;
import com.sun.source.util.JavacTask;
import com.sun.source.util.TreePathScanner;
import com.sun.source.util.Trees;
import java.io.IOException;
import java.nio.file.Path;
import java.util.ArrayList;
import java.util.HashMap;
import java.util.List;
import java.util.Map;
import java.util.Set;
import java.util.TreeMap;
import java.util.TreeSet;
import javax.lang.model.element.Element;
import javax.lang.model.element.ElementKind;
import javax.tools.JavaCompiler;
import javax.tools.StandardJavaFileManager;
import javax.tools.ToolProvider;

/** Rules 8 and 11 of LANGUAGE.md: no call comes back to itself, and none goes more than eight deep. */
public final class CallDepthTest {
    private static final Path SOURCE = Path.of("src/main/java/EvenBodies.java");
    private static final int MOST_DEEP = 8;

    public static void main(String[] args) throws IOException {
        Map<String, Set<String>> calls = callsOf(SOURCE);
        Map<String, List<String>> deepest = new HashMap<>();
        int wrong = calls.size() < 100 ? 1 : 0;
        int most = 0;
        for (String name : calls.keySet()) {
            List<String> way = deepest(name, calls, deepest, List.of());
            most = Math.max(most, way.size());
            if (way.size() > MOST_DEEP) {
                wrong++;
                System.out.println("rule 11: " + way.size() + " deep: " + way);
            }
        }
        System.out.println(calls.size() + " methods, calls go " + most + " deep at most");
        if (wrong != 0) {
            System.exit(1);
        }
    }

    private static List<String> deepest(String name, Map<String, Set<String>> calls, Map<String, List<String>> known,
            List<String> above) {
        if (above.contains(name)) {
            throw new IllegalStateException("rule 8: " + name + " comes back to itself by " + above);
        }
        if (known.containsKey(name)) {
            return known.get(name);
        }
        List<String> best = List.of();
        for (String next : calls.get(name)) {
            List<String> way = deepest(next, calls, known, joined(above, List.of(name)));
            best = way.size() > best.size() ? way : best;
        }
        known.put(name, joined(List.of(name), best));
        return known.get(name);
    }

    private static List<String> joined(List<String> one, List<String> two) {
        List<String> all = new ArrayList<>(one);
        all.addAll(two);
        return all;
    }

    /** By each method and constructor of the file: which others of the file it calls. */
    private static Map<String, Set<String>> callsOf(Path source) throws IOException {
        JavaCompiler compiler = ToolProvider.getSystemJavaCompiler();
        Map<String, Set<String>> calls = new TreeMap<>();
        try (StandardJavaFileManager files = compiler.getStandardFileManager(null, null, null)) {
            JavacTask task = (JavacTask) compiler.getTask(null, files, null, List.of("-proc:none"), null,
                files.getJavaFileObjects(source));
            var units = task.parse();
            task.analyze();
            Scanner scanner = new Scanner(Trees.instance(task), calls);
            for (var unit : units) {
                scanner.scan(unit, null);
            }
        }
        for (Set<String> called : calls.values()) {
            called.retainAll(calls.keySet());
        }
        return calls;
    }

    private static final class Scanner extends TreePathScanner<Void, Void> {
        private final Trees trees;
        private final Map<String, Set<String>> calls;
        private String within;

        Scanner(Trees trees, Map<String, Set<String>> calls) {
            this.trees = trees;
            this.calls = calls;
        }

        /** What a class's fields begin with is called by its constructor, of which no class here has two. */
        @Override
        public Void visitClass(ClassTree tree, Void nothing) {
            String outside = within;
            within = trees.getElement(getCurrentPath()).getSimpleName() + ".<init>";
            calls.putIfAbsent(within, new TreeSet<>());
            super.visitClass(tree, nothing);
            within = outside;
            return null;
        }

        @Override
        public Void visitMethod(MethodTree tree, Void nothing) {
            String outside = within;
            within = nameOf(trees.getElement(getCurrentPath()));
            calls.putIfAbsent(within, new TreeSet<>());
            super.visitMethod(tree, nothing);
            within = outside;
            return null;
        }

        @Override
        public Void visitMethodInvocation(MethodInvocationTree tree, Void nothing) {
            note(trees.getElement(getCurrentPath()));
            return super.visitMethodInvocation(tree, nothing);
        }

        @Override
        public Void visitNewClass(NewClassTree tree, Void nothing) {
            note(trees.getElement(getCurrentPath()));
            return super.visitNewClass(tree, nothing);
        }

        private void note(Element called) {
            if (called != null && within != null) {
                calls.get(within).add(nameOf(called));
            }
        }

        private static String nameOf(Element element) {
            String owner = element.getEnclosingElement().getSimpleName().toString();
            boolean isMaker = element.getKind() == ElementKind.CONSTRUCTOR;
            return owner + "." + (isMaker ? "<init>" : element.getSimpleName());
        }
    }
}
