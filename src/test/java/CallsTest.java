import com.sun.source.tree.MethodInvocationTree;
import com.sun.source.tree.MethodTree;
import com.sun.source.tree.NewClassTree;
import com.sun.source.tree.Tree;
import com.sun.source.util.JavacTask;
import com.sun.source.util.TreePathScanner;
import com.sun.source.util.Trees;
import java.io.IOException;
import java.util.ArrayList;
import java.util.LinkedHashMap;
import java.util.LinkedHashSet;
import java.util.List;
import java.util.Map;
import java.util.Set;
import java.util.TreeSet;
import javax.lang.model.element.Element;
import javax.lang.model.element.Modifier;
import javax.tools.JavaCompiler;
import javax.tools.StandardJavaFileManager;
import javax.tools.ToolProvider;

/**
 * The rules of LANGUAGE.md on calls, as the compiler sees them: at most eight deep (11), which methods call themselves
 * (8), and what they use of the library (4).
 */
public final class CallsTest {
    private static final int DEEPEST = 8;
    private static final Set<String> LIBRARY = Set.of("Object.<init>", "Integer.bitCount", "Math.min", "Math.max",
        "System.arraycopy");
    /** Each carries its depth as an argument, and ends at a bound: a trick, a place or a card. */
    private static final Set<String> RECURSIVE = Set.of("Search.lay", "Search.layTrick", "Search.arrange", "Judge.reach",
        "Judge.reachBehind", "Judge.deals");
    private static final Map<Element, Set<Element>> CALLS = new LinkedHashMap<>();
    private static int wrong = 0;

    public static void main(String[] args) throws IOException {
        readCalls("src/main/java/LastTrick.java");
        int faces = 0;
        for (Element method : CALLS.keySet()) {
            if (method.getModifiers().contains(Modifier.PUBLIC)) {
                faces++;
                lookAtDepth(method);
            }
        }
        if (faces != 32) {
            say(faces + " public methods and constructors were found");
        }
        lookAtRecursion();
        lookAtLibrary();
        System.out.println(wrong == 0 ? "calls are as due" : wrong + " faults in calls");
        if (wrong != 0) {
            System.exit(1);
        }
    }

    private static void say(String what) {
        wrong++;
        System.out.println(what);
    }

    private static String name(Element method) {
        return method.getEnclosingElement().getSimpleName() + "." + method.getSimpleName();
    }

    private static void readCalls(String file) throws IOException {
        JavaCompiler compiler = ToolProvider.getSystemJavaCompiler();
        StandardJavaFileManager files = compiler.getStandardFileManager(null, null, null);
        JavacTask task = (JavacTask) compiler.getTask(null, files, null, List.of("-proc:none"), null,
            files.getJavaFileObjects(file));
        Iterable<? extends Tree> units = task.parse();
        task.analyze();
        Trees trees = Trees.instance(task);
        TreePathScanner<Void, Element> scanner = new TreePathScanner<>() {
            @Override
            public Void visitMethod(MethodTree tree, Element in) {
                Element method = trees.getElement(getCurrentPath());
                CALLS.putIfAbsent(method, new LinkedHashSet<>());
                return super.visitMethod(tree, method);
            }

            @Override
            public Void visitMethodInvocation(MethodInvocationTree tree, Element in) {
                note(in);
                return super.visitMethodInvocation(tree, in);
            }

            @Override
            public Void visitNewClass(NewClassTree tree, Element in) {
                note(in);
                return super.visitNewClass(tree, in);
            }

            private void note(Element in) {
                // fields that are made at once are no method's
                if (in != null) {
                    CALLS.get(in).add(trees.getElement(getCurrentPath()));
                }
            }
        };
        for (Tree unit : units) {
            scanner.scan(unit, null);
        }
    }

    private static void lookAtDepth(Element method) {
        List<Element> chain = longest(method, new LinkedHashSet<>());
        if (chain.size() > DEEPEST) {
            StringBuilder b = new StringBuilder();
            for (Element called : chain) {
                b.append(' ').append(name(called));
            }
            say(chain.size() + " calls deep:" + b);
        }
    }

    /** The longest chain of calls from a method on; one that stands open already is a recursion, and not gone into. */
    private static List<Element> longest(Element method, Set<Element> open) {
        List<Element> best = new ArrayList<>();
        open.add(method);
        for (Element called : CALLS.getOrDefault(method, Set.of())) {
            if (!open.contains(called)) {
                List<Element> chain = longest(called, open);
                best = chain.size() > best.size() ? chain : best;
            }
        }
        open.remove(method);
        List<Element> chain = new ArrayList<>(best);
        chain.add(0, method);
        return chain;
    }

    private static void lookAtRecursion() {
        Set<String> found = new TreeSet<>();
        for (Element method : CALLS.keySet()) {
            Set<Element> reached = new LinkedHashSet<>();
            List<Element> next = new ArrayList<>(CALLS.get(method));
            while (!next.isEmpty()) {
                Element called = next.remove(next.size() - 1);
                if (reached.add(called)) {
                    next.addAll(CALLS.getOrDefault(called, Set.of()));
                }
            }
            if (reached.contains(method)) {
                found.add(name(method));
            }
        }
        if (!found.equals(new TreeSet<>(RECURSIVE))) {
            say("these call themselves: " + found);
        }
    }

    private static void lookAtLibrary() {
        for (Set<Element> called : CALLS.values()) {
            for (Element method : called) {
                if (!CALLS.containsKey(method) && !LIBRARY.contains(name(method))) {
                    say("the library's " + name(method));
                }
            }
        }
    }
}
