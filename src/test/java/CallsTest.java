import com.sun.source.tree.CompilationUnitTree;
import com.sun.source.tree.MethodInvocationTree;
import com.sun.source.tree.MethodTree;
import com.sun.source.tree.NewClassTree;
import com.sun.source.tree.Tree;
import com.sun.source.util.JavacTask;
import com.sun.source.util.TreePath;
import com.sun.source.util.TreePathScanner;
import com.sun.source.util.Trees;
import java.nio.file.Path;
import java.util.ArrayList;
import java.util.List;
import java.util.Map;
import java.util.Set;
import java.util.TreeMap;
import java.util.TreeSet;
import javax.lang.model.element.Element;
import javax.tools.JavaCompiler;
import javax.tools.StandardJavaFileManager;
import javax.tools.ToolProvider;

/** LANGUAGE.md, rules 8 and 11: who calls whom in the class, how deep that goes, and which methods call themselves. */
public final class CallsTest {
    private static final int MOST_DEEP = 8;
    private static final String RECURSIVE = "Law.readAll Law.readAny Law.readAtom Orders.placeFrom Pairs.pairFrom";

    private final Map<String, Set<String>> calls = new TreeMap<>();

    public static void main(String[] args) throws Exception {
        CallsTest test = new CallsTest();
        test.read();
        Set<String> recursive = new TreeSet<>();
        for (String method : test.calls.keySet()) {
            List<String> deepest = test.deepest(method, new ArrayList<>());
            Due.same("few calls are open at once in " + deepest, deepest.size() <= MOST_DEEP, true);
            if (test.leadsTo(method, method, new TreeSet<>())) {
                recursive.add(method);
            }
        }
        Due.same("methods that call themselves, each with a bound", String.join(" ", recursive), RECURSIVE);
        Due.close("CallsTest");
    }

    private void read() throws Exception {
        JavaCompiler javac = ToolProvider.getSystemJavaCompiler();
        try (StandardJavaFileManager files = javac.getStandardFileManager(null, null, null)) {
            JavacTask task = (JavacTask) javac.getTask(null, files, null, List.of("--release", "17"), null,
                files.getJavaFileObjects(Path.of("src/main/java/HalfOaths.java")));
            Iterable<? extends CompilationUnitTree> units = task.parse();
            task.analyze();
            for (CompilationUnitTree unit : units) {
                new Reader(Trees.instance(task)).scan(unit, null);
            }
        }
    }

    private final class Reader extends TreePathScanner<Void, Void> {
        private final Trees trees;
        private String within = null;

        Reader(Trees trees) {
            this.trees = trees;
        }

        @Override
        public Void visitMethod(MethodTree method, Void none) {
            within = name(method);
            calls.put(within, new TreeSet<>());
            super.visitMethod(method, none);
            within = null;
            return null;
        }

        @Override
        public Void visitMethodInvocation(MethodInvocationTree call, Void none) {
            note(call);
            return super.visitMethodInvocation(call, none);
        }

        @Override
        public Void visitNewClass(NewClassTree made, Void none) {
            note(made);
            return super.visitNewClass(made, none);
        }

        private void note(Tree called) {
            if (within != null) {
                calls.get(within).add(name(called));
            }
        }

        private String name(Tree tree) {
            Element e = trees.getElement(TreePath.getPath(getCurrentPath().getCompilationUnit(), tree));
            return e.getEnclosingElement().getSimpleName() + "." + e.getSimpleName();
        }
    }

    /** The longest row of calls of methods of the class, none of them twice. */
    private List<String> deepest(String method, List<String> open) {
        List<String> row = new ArrayList<>(open);
        row.add(method);
        List<String> longest = row;
        for (String next : calls.get(method)) {
            if (calls.containsKey(next) && !row.contains(next)) {
                List<String> more = deepest(next, row);
                longest = more.size() > longest.size() ? more : longest;
            }
        }
        return longest;
    }

    private boolean leadsTo(String from, String method, Set<String> seen) {
        for (String next : calls.get(from)) {
            if (next.equals(method) || calls.containsKey(next) && seen.add(next) && leadsTo(next, method, seen)) {
                return true;
            }
        }
        return false;
    }
}
