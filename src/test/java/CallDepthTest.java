import com.sun.source.tree.CompilationUnitTree;
import com.sun.source.tree.MethodInvocationTree;
import com.sun.source.tree.MethodTree;
import com.sun.source.tree.NewClassTree;
import com.sun.source.util.JavacTask;
import com.sun.source.util.TreePathScanner;
import com.sun.source.util.Trees;
import java.io.IOException;
import java.nio.file.Path;
import java.util.ArrayList;
import java.util.LinkedHashSet;
import java.util.List;
import java.util.Map;
import java.util.Set;
import java.util.TreeMap;
import java.util.TreeSet;
import javax.lang.model.element.Element;
import javax.tools.JavaCompiler;
import javax.tools.StandardJavaFileManager;
import javax.tools.ToolProvider;

/**
 * Rules 8 and 11 of LANGUAGE.md: which methods of the class call which, how deep calls go (each method of a
 * row counted once, so that recursion is left out), and which methods are in a recursion at all.
 */
public final class CallDepthTest {
    private static final int DEEPEST = 8;
    /** Only tests lie within one another; their depth is carried as an argument. */
    private static final Set<String> RECURSIVE = Set.of("RuleReader.readTest", "RuleReader.readFact");

    private static final Map<String, Set<String>> CALLS = new TreeMap<>();
    private static List<String> deepest = List.of();

    private CallDepthTest() {
    }

    private static void readCalls() throws IOException {
        JavaCompiler compiler = ToolProvider.getSystemJavaCompiler();
        StandardJavaFileManager files = compiler.getStandardFileManager(null, null, null);
        JavacTask task = (JavacTask) compiler.getTask(null, files, null, List.of("-proc:none"), null,
                files.getJavaFileObjects(Path.of("src/main/java/DownOnly.java")));
        Iterable<? extends CompilationUnitTree> units = task.parse();
        task.analyze();
        Trees trees = Trees.instance(task);
        for (CompilationUnitTree unit : units) {
            new CallScanner(trees).scan(unit, "");
        }
    }

    private static final class CallScanner extends TreePathScanner<Void, String> {
        private final Trees trees;

        CallScanner(Trees trees) {
            this.trees = trees;
        }

        @Override
        public Void visitMethod(MethodTree method, String inside) {
            return super.visitMethod(method, name(trees.getElement(getCurrentPath())));
        }

        @Override
        public Void visitMethodInvocation(MethodInvocationTree call, String inside) {
            note(inside, trees.getElement(getCurrentPath()));
            return super.visitMethodInvocation(call, inside);
        }

        @Override
        public Void visitNewClass(NewClassTree call, String inside) {
            note(inside, trees.getElement(getCurrentPath()));
            return super.visitNewClass(call, inside);
        }

        private static String name(Element e) {
            return e.getEnclosingElement().getSimpleName() + "." + e.getSimpleName();
        }

        private static void note(String inside, Element called) {
            if (called.getEnclosingElement().toString().startsWith("DownOnly")) {
                CALLS.computeIfAbsent(inside, k -> new TreeSet<>()).add(name(called));
            }
        }
    }

    private static void follow(String method, LinkedHashSet<String> open, Set<String> recursive) {
        if (!open.add(method)) {
            boolean within = false;
            for (String m : open) {
                within |= m.equals(method);
                if (within) {
                    recursive.add(m);
                }
            }
            return;
        }
        if (open.size() > deepest.size()) {
            deepest = new ArrayList<>(open);
        }
        for (String called : CALLS.getOrDefault(method, Set.of())) {
            follow(called, open, recursive);
        }
        open.remove(method);
    }

    public static void main(String[] args) throws IOException {
        readCalls();
        Set<String> recursive = new TreeSet<>();
        for (String method : List.copyOf(CALLS.keySet())) {
            follow(method, new LinkedHashSet<>(), recursive);
        }
        boolean low = deepest.size() <= DEEPEST && deepest.size() > 1;
        boolean known = recursive.equals(new TreeSet<>(RECURSIVE));
        System.out.println("calls go " + deepest.size() + " deep: " + deepest);
        System.out.println("in a recursion: " + recursive);
        if (!low || !known) {
            System.out.println("at most " + DEEPEST + " deep, and in a recursion only " + new TreeSet<>(RECURSIVE));
            System.exit(1);
        }
    }
}
