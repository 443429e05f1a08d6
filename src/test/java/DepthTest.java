import com.sun.source.tree.MethodInvocationTree;
import com.sun.source.tree.MethodTree;
import com.sun.source.tree.NewClassTree;
import com.sun.source.util.JavacTask;
import com.sun.source.util.TreePath;
import com.sun.source.util.TreePathScanner;
import com.sun.source.util.Trees;
import java.io.IOException;
import java.nio.file.Path;
import java.util.ArrayList;
import java.util.HashMap;
import java.util.LinkedHashSet;
import java.util.List;
import java.util.Map;
import java.util.Set;
import java.util.TreeSet;
import javax.lang.model.element.Element;
import javax.lang.model.element.ElementKind;
import javax.tools.JavaCompiler;
import javax.tools.StandardJavaFileManager;
import javax.tools.ToolProvider;

/**
 * Rules 4, 8, 11 and 12 of LANGUAGE.md, as far as they speak of calls: which of the library's are made, which
 * methods call themselves, and how deep the others go.
 */
public final class DepthTest {
    private static final Path FILE = Path.of("src/main/java/Wordnet.java");
    private static final int DEEPEST = 8;
    private static final String RECURSIVE = "Wordnet.Pack.wordsFrom";
    private static final Set<String> LIBRARY = Set.of(
            "java.lang.Math.min", "java.lang.Math.max", "java.lang.Math.floorMod", "java.lang.StringBuilder.append",
            "java.lang.StringBuilder.toString", "java.lang.StringBuilder.new", "java.lang.IndexOutOfBoundsException.new",
            "java.lang.IllegalArgumentException.new", "java.lang.IllegalStateException.new");
    private static final Check CHECK = new Check();

    /** What each method calls, of the class's own and of the library. */
    private static final Map<String, Set<String>> CALLS = new HashMap<>();

    public static void main(String[] args) throws IOException {
        readCalls();
        Set<String> others = new TreeSet<>();
        for (Set<String> called : CALLS.values()) {
            others.addAll(called);
        }
        others.removeAll(CALLS.keySet());
        others.removeIf(name -> name.startsWith("Wordnet.") && name.endsWith(".new"));
        others.removeAll(LIBRARY);
        CHECK.same("calls of the library that are not listed", others.toString(), "[]");
        CHECK.same("methods that were read", CALLS.size() > 100, true);
        for (String method : CALLS.keySet()) {
            boolean isRecursive = deepest(method, new LinkedHashSet<>(List.of("from here"))).contains("again");
            CHECK.same("the calls of " + method + " end", isRecursive, false);
            CHECK.same("constructors are quiet: " + method, !method.endsWith(".new") || isQuiet(method), true);
        }
        for (String method : CALLS.keySet()) {
            List<String> way = deepest(method, new LinkedHashSet<>());
            CHECK.same("deep: " + String.join(", ", way), way.size() <= DEEPEST, true);
        }
        CHECK.end();
    }

    /** A constructor makes parts, and calls nothing else. */
    private static boolean isQuiet(String constructor) {
        return CALLS.get(constructor).stream().allMatch(name -> name.endsWith(".new"));
    }

    private static List<String> deepest(String method, LinkedHashSet<String> above) {
        List<String> best = new ArrayList<>();
        LinkedHashSet<String> here = new LinkedHashSet<>(above);
        here.add(method);
        for (String called : CALLS.getOrDefault(method, Set.of())) {
            boolean isItself = called.equals(method) && method.equals(RECURSIVE);
            if (here.contains(called) && !isItself) {
                return List.of(method, called, "again");
            }
            if (CALLS.containsKey(called) && !isItself) {
                List<String> way = deepest(called, here);
                best = way.size() > best.size() ? way : best;
            }
        }
        List<String> whole = new ArrayList<>(List.of(method));
        whole.addAll(best);
        return whole;
    }

    private static void readCalls() throws IOException {
        JavaCompiler compiler = ToolProvider.getSystemJavaCompiler();
        StandardJavaFileManager files = compiler.getStandardFileManager(null, null, null);
        JavacTask task = (JavacTask) compiler.getTask(null, files, null, List.of("-proc:none"), null,
                files.getJavaFileObjects(FILE));
        var units = task.parse();
        task.analyze();
        Trees trees = Trees.instance(task);
        for (var unit : units) {
            new Reader(trees).scan(unit, "");
        }
    }

    private static String nameOf(Element element) {
        String name = element.getKind() == ElementKind.CONSTRUCTOR ? "new" : element.getSimpleName().toString();
        return element.getEnclosingElement() + "." + name;
    }

    private static final class Reader extends TreePathScanner<Void, String> {
        private final Trees trees;

        Reader(Trees trees) {
            this.trees = trees;
        }

        @Override
        public Void visitMethod(MethodTree tree, String inside) {
            String name = nameOf(trees.getElement(getCurrentPath()));
            CHECK.same("one method is named " + name, CALLS.containsKey(name), false);
            CALLS.put(name, new TreeSet<>());
            return super.visitMethod(tree, name);
        }

        @Override
        public Void visitMethodInvocation(MethodInvocationTree tree, String inside) {
            Element called = trees.getElement(new TreePath(getCurrentPath(), tree.getMethodSelect()));
            note(inside, nameOf(called));
            return super.visitMethodInvocation(tree, inside);
        }

        @Override
        public Void visitNewClass(NewClassTree tree, String inside) {
            note(inside, nameOf(trees.getElement(getCurrentPath())));
            return super.visitNewClass(tree, inside);
        }

        /** A super() that the compiler puts in is no call; a part made where its field stands is none of a method. */
        private static void note(String inside, String called) {
            if (!inside.isEmpty() && !called.equals("java.lang.Object.new")) {
                CALLS.get(inside).add(called);
            }
        }
    }
}
