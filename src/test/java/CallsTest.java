import com.sun.source.tree.ClassTree;
import com.sun.source.tree.CompilationUnitTree;
import com.sun.source.tree.MethodInvocationTree;
import com.sun.source.tree.MethodTree;
import com.sun.source.tree.NewArrayTree;
import com.sun.source.tree.NewClassTree;
import com.sun.source.tree.Tree;
import com.sun.source.util.JavacTask;
import com.sun.source.util.TreePath;
import com.sun.source.util.TreePathScanner;
import com.sun.source.util.Trees;
import java.nio.file.Path;
import java.util.ArrayList;
import java.util.List;
import java.util.Map;
import java.util.Set;
import java.util.TreeMap;
import java.util.TreeSet;
import javax.lang.model.element.Element;
import javax.lang.model.element.Modifier;
import javax.tools.JavaCompiler;
import javax.tools.StandardJavaFileManager;
import javax.tools.ToolProvider;

/** LANGUAGE.md's rules on calls (1, 4, 8, 11, 12), by the compiler's own reading of the source. */
public final class CallsTest {
    private static final Path SOURCE = Path.of("src/main/java/FourInks.java");
    private static final int DEEPEST = 8;
    private static final Set<String> LIBRARY = Set.of("java.lang.String.charAt", "java.lang.String.length",
        "java.lang.Math.min", "java.lang.Math.max", "java.lang.Math.abs", "java.lang.Long.bitCount",
        "java.lang.System.arraycopy", "java.util.Arrays.fill");

    /** Whom each method calls; a class's fields are made by its constructor. */
    private static final Map<String, Set<String>> CALLS = new TreeMap<>();
    private static final Set<String> MAKERS = new TreeSet<>();
    private static final Set<String> FACE = new TreeSet<>();
    private static final Set<String> OTHERS = new TreeSet<>();

    public static void main(String[] args) throws Exception {
        readSource();
        depth();
        library();
        names();
        makers();
        Checks.finish();
    }

    private static void readSource() throws Exception {
        JavaCompiler compiler = ToolProvider.getSystemJavaCompiler();
        try (StandardJavaFileManager files = compiler.getStandardFileManager(null, null, null)) {
            JavacTask task = (JavacTask) compiler.getTask(null, files, null, List.of("-proc:none"), null,
                files.getJavaFileObjects(SOURCE));
            List<CompilationUnitTree> units = new ArrayList<>();
            task.parse().forEach(units::add);
            task.analyze();
            for (CompilationUnitTree unit : units) {
                new Reader(Trees.instance(task)).scan(unit, null);
            }
        }
        Checks.due("methods were read", CALLS.size() > 100 ? 1 : 0, 1);
    }

    private static final class Reader extends TreePathScanner<Void, Void> {
        private final Trees trees;
        private String caller = "";

        Reader(Trees trees) {
            this.trees = trees;
        }

        private static String nameOf(Element method) {
            return method.getEnclosingElement() + "." + method.getSimpleName();
        }

        @Override
        public Void visitClass(ClassTree tree, Void nothing) {
            String outer = caller;
            caller = trees.getElement(getCurrentPath()) + ".<init>";
            super.visitClass(tree, nothing);
            caller = outer;
            return null;
        }

        @Override
        public Void visitMethod(MethodTree tree, Void nothing) {
            String outer = caller;
            Element method = trees.getElement(getCurrentPath());
            caller = nameOf(method);
            CALLS.computeIfAbsent(caller, name -> new TreeSet<>());
            boolean isOpen = method.getModifiers().contains(Modifier.PUBLIC);
            (isOpen ? FACE : OTHERS).add(method.getSimpleName().toString());
            super.visitMethod(tree, nothing);
            caller = outer;
            return null;
        }

        private void note(Tree tree) {
            Element called = trees.getElement(new TreePath(getCurrentPath(), tree));
            String name = called.getEnclosingElement() + "." + called.getSimpleName();
            if (!name.equals("java.lang.Object.<init>")) {
                CALLS.computeIfAbsent(caller, one -> new TreeSet<>()).add(name);
            }
        }

        @Override
        public Void visitMethodInvocation(MethodInvocationTree tree, Void nothing) {
            note(tree);
            return super.visitMethodInvocation(tree, nothing);
        }

        @Override
        public Void visitNewClass(NewClassTree tree, Void nothing) {
            note(tree);
            MAKERS.add(caller);
            return super.visitNewClass(tree, nothing);
        }

        @Override
        public Void visitNewArray(NewArrayTree tree, Void nothing) {
            MAKERS.add(caller);
            return super.visitNewArray(tree, nothing);
        }
    }

    /** Rule 8 and 11: no call comes back to itself, and none goes deeper than eight, the library's counted too. */
    private static void depth() {
        for (String method : CALLS.keySet()) {
            List<String> chain = longestFrom(method, List.of());
            Checks.due("as deep as " + chain, chain.size() <= DEEPEST ? 1 : 0, 1);
        }
        Checks.due("a job is read seven deep at least", longestFrom("FourInks.job", List.of()).size() >= 7 ? 1 : 0, 1);
    }

    private static List<String> longestFrom(String method, List<String> above) {
        List<String> here = new ArrayList<>(above);
        here.add(method);
        Checks.due("no recursion: " + here, above.contains(method) ? 1 : 0, 0);
        List<String> longest = here;
        for (String called : CALLS.getOrDefault(method, Set.of())) {
            List<String> chain = above.contains(method) ? here : longestFrom(called, here);
            longest = chain.size() > longest.size() ? chain : longest;
        }
        return longest;
    }

    /** Rule 4: of the library only what stands there. */
    private static void library() {
        for (var calls : CALLS.entrySet()) {
            for (String called : calls.getValue()) {
                boolean own = called.startsWith("FourInks.");
                Checks.due(calls.getKey() + " calls " + called, own || LIBRARY.contains(called) ? 1 : 0, 1);
            }
        }
    }

    /** Rule 1: no other method bears the name of a public one. */
    private static void names() {
        for (String name : OTHERS) {
            Checks.due("a name of its own: " + name, FACE.contains(name) && !name.equals("<init>") ? 1 : 0, 0);
        }
    }

    /** Rule 12: whatever is made is made with the press. */
    private static void makers() {
        Set<String> withThePress = new TreeSet<>();
        gather("FourInks.<init>", withThePress);
        for (String maker : MAKERS) {
            Checks.due("made with the press: " + maker, withThePress.contains(maker) ? 1 : 0, 1);
        }
        for (var calls : CALLS.entrySet()) {
            for (String called : calls.getValue()) {
                boolean late = MAKERS.contains(called) && !withThePress.contains(calls.getKey());
                Checks.due(calls.getKey() + " makes nothing by " + called, late ? 1 : 0, 0);
            }
        }
    }

    private static void gather(String method, Set<String> all) {
        if (all.add(method)) {
            for (String called : CALLS.getOrDefault(method, Set.of())) {
                gather(called, all);
            }
        }
    }
}
