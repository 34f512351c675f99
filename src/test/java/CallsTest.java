import com.sun.source.tree.ClassTree;
import com.sun.source.tree.CompilationUnitTree;
import com.sun.source.tree.MethodInvocationTree;
import com.sun.source.tree.MethodTree;
import com.sun.source.tree.NewClassTree;
import com.sun.source.util.JavacTask;
import com.sun.source.util.TreePath;
import com.sun.source.util.TreePathScanner;
import com.sun.source.util.Trees;
import java.util.ArrayList;
import java.util.List;
import java.util.Map;
import java.util.Set;
import java.util.TreeMap;
import java.util.TreeSet;
import javax.lang.model.element.Element;
import javax.tools.JavaCompiler;
import javax.tools.StandardJavaFileManager;
import javax.tools.ToolProvider;

/**
 * Who calls whom in the class, as the compiler sees it: what it takes from the library (rule 4), that no call comes
 * back to itself (rule 8), and how deep calls go (rule 11), the library's own last one with them.
 */
public final class CallsTest {
    private static final String SOURCE = "src/main/java/LikePages.java";
    private static final int DEEPEST = 8;
    private static final Set<String> LIBRARY = Set.of(
        "String.length", "String.charAt", "String.isEmpty", "String.equals", "String.indexOf", "String.substring",
        "String.toCharArray", "StringBuilder.<init>", "StringBuilder.append", "StringBuilder.charAt",
        "StringBuilder.setCharAt", "StringBuilder.setLength", "StringBuilder.deleteCharAt", "StringBuilder.reverse",
        "StringBuilder.length", "StringBuilder.toString", "ArrayList.<init>", "ArrayList.add", "ArrayList.get",
        "ArrayList.set", "ArrayList.remove", "ArrayList.size", "ArrayList.isEmpty", "ArrayList.clear",
        "System.arraycopy", "Arrays.copyOf", "Arrays.copyOfRange", "Arrays.fill", "Object.<init>");

    private static final Map<String, Set<String>> calls = new TreeMap<>();
    private static final Set<String> own = new TreeSet<>();
    private static int wrong = 0;

    public static void main(String[] args) throws Exception {
        readCalls();
        List<String> deepest = List.of();
        for (String method : own) {
            List<String> chain = longestFrom(method, new ArrayList<>());
            deepest = chain.size() > deepest.size() ? chain : deepest;
            for (String called : calls.getOrDefault(method, Set.of())) {
                if (!own.contains(called) && !isOfTheLibrary(called)) {
                    fail("rule 4: " + method + " calls " + called);
                }
            }
        }
        if (own.size() < 49) {
            fail("only " + own.size() + " methods were read");
        }
        if (deepest.size() > DEEPEST) {
            fail("rule 11: calls go " + deepest.size() + " deep: " + deepest);
        }
        System.out.println(own.size() + " methods, calls go " + deepest.size() + " deep, " + wrong + " rules are broken");
        if (wrong != 0) {
            System.exit(1);
        }
    }

    private static boolean isOfTheLibrary(String called) {
        return LIBRARY.contains(called) || called.matches("(Math|Integer|Long)\\.\\w+(?<!Exact)");
    }

    private static void fail(String text) {
        wrong++;
        System.out.println(text);
    }

    private static void readCalls() throws Exception {
        JavaCompiler compiler = ToolProvider.getSystemJavaCompiler();
        try (StandardJavaFileManager files = compiler.getStandardFileManager(null, null, null)) {
            JavacTask task = (JavacTask) compiler.getTask(null, files, null, List.of("-proc:none"), null,
                files.getJavaFileObjects(SOURCE));
            Iterable<? extends CompilationUnitTree> units = task.parse();
            task.analyze();
            for (CompilationUnitTree unit : units) {
                new Reader(Trees.instance(task)).scan(unit, null);
            }
        }
    }

    /** The longest chain of calls from a method on; those that stand open are above it. */
    private static List<String> longestFrom(String method, List<String> open) {
        if (open.contains(method)) {
            fail("rule 8: a call comes back to itself: " + open + " " + method);
            return List.of();
        }
        open.add(method);
        List<String> longest = List.of();
        for (String called : calls.getOrDefault(method, Set.of())) {
            List<String> chain = longestFrom(called, open);
            longest = chain.size() > longest.size() ? chain : longest;
        }
        open.remove(open.size() - 1);
        List<String> whole = new ArrayList<>(List.of(method));
        whole.addAll(longest);
        return whole;
    }

    /** What stands outside of methods, the first values of fields, is of the constructor. */
    private static final class Reader extends TreePathScanner<Void, Void> {
        private final Trees trees;
        private String now = "";

        Reader(Trees itsTrees) {
            trees = itsTrees;
        }

        private static String nameOf(Element method) {
            return method.getEnclosingElement().getSimpleName() + "." + method.getSimpleName();
        }

        @Override
        public Void visitClass(ClassTree tree, Void none) {
            String before = now;
            now = tree.getSimpleName() + ".<init>";
            own.add(now);
            super.visitClass(tree, none);
            now = before;
            return null;
        }

        @Override
        public Void visitMethod(MethodTree tree, Void none) {
            String before = now;
            now = nameOf(trees.getElement(getCurrentPath()));
            own.add(now);
            super.visitMethod(tree, none);
            now = before;
            return null;
        }

        @Override
        public Void visitMethodInvocation(MethodInvocationTree tree, Void none) {
            note(trees.getElement(new TreePath(getCurrentPath(), tree.getMethodSelect())));
            return super.visitMethodInvocation(tree, none);
        }

        @Override
        public Void visitNewClass(NewClassTree tree, Void none) {
            note(trees.getElement(getCurrentPath()));
            return super.visitNewClass(tree, none);
        }

        private void note(Element called) {
            calls.computeIfAbsent(now, n -> new TreeSet<>()).add(nameOf(called));
        }
    }
}
