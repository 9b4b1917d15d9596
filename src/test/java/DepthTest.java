import com.sun.source.tree.CompilationUnitTree;
import com.sun.source.tree.MethodInvocationTree;
import com.sun.source.tree.MethodTree;
import com.sun.source.tree.NewClassTree;
import com.sun.source.tree.Tree;
import com.sun.source.util.JavacTask;
import com.sun.source.util.TreePathScanner;
import com.sun.source.util.Trees;
import java.io.IOException;
import java.nio.file.Path;
import java.util.ArrayList;
import java.util.HashMap;
import java.util.LinkedHashMap;
import java.util.LinkedHashSet;
import java.util.List;
import java.util.Map;
import java.util.Set;
import javax.lang.model.element.Element;
import javax.lang.model.element.Modifier;
import javax.tools.JavaCompiler;
import javax.tools.StandardJavaFileManager;
import javax.tools.ToolProvider;

/** Rule 11 of LANGUAGE.md: calls that are no recursion go at most eight deep, whatever call of the face begins. */
public final class DepthTest {
    private static final int DEEPEST = 8;

    /** For each method and constructor of the source, those of the source that it calls. */
    private static final Map<Element, Set<Element>> CALLS = new LinkedHashMap<>();
    private static final Map<Element, Set<Element>> REACHED = new HashMap<>();
    private static final Map<Element, List<Element>> DEEPEST_WAY = new HashMap<>();

    private DepthTest() {
    }

    public static void main(String[] args) throws IOException {
        readCalls(Path.of("src/main/java/CountRule.java"));
        Check.due("the source has methods", CALLS.size() > 100, true);
        for (Element from : CALLS.keySet()) {
            REACHED.put(from, reachedFrom(from));
        }
        int faces = 0;
        int recursive = 0;
        for (Element from : CALLS.keySet()) {
            boolean isFace = from.getModifiers().contains(Modifier.PUBLIC) && from.getEnclosingElement().getSimpleName().contentEquals("CountRule");
            if (isFace) {
                faces++;
                List<Element> way = deepestWay(from);
                Check.due(way + " is at most so deep", way.size() <= DEEPEST, true);
            }
            if (REACHED.get(from).contains(from)) {
                recursive++;
                String home = from.getEnclosingElement().getSimpleName().toString();
                Check.due("only laws are read by recursion, not " + home + "." + from, home.equals("LawReader"), true);
            }
        }
        Check.due("calls of the face, and the constructor", faces, 48);
        Check.due("there is recursion where laws are read", recursive > 0, true);
        Check.close();
    }

    private static void readCalls(Path source) throws IOException {
        JavaCompiler compiler = ToolProvider.getSystemJavaCompiler();
        try (StandardJavaFileManager files = compiler.getStandardFileManager(null, null, null)) {
            JavacTask task = (JavacTask) compiler.getTask(null, files, null, List.of("-proc:none"), null, files.getJavaFileObjects(source));
            Iterable<? extends CompilationUnitTree> units = task.parse();
            task.analyze();
            for (CompilationUnitTree unit : units) {
                new Callers(Trees.instance(task)).scan(unit, null);
            }
        }
        for (Set<Element> called : CALLS.values()) {
            called.retainAll(CALLS.keySet());
        }
    }

    private static Set<Element> reachedFrom(Element from) {
        Set<Element> reached = new LinkedHashSet<>();
        List<Element> open = new ArrayList<>(CALLS.get(from));
        while (!open.isEmpty()) {
            Element next = open.remove(open.size() - 1);
            if (reached.add(next)) {
                open.addAll(CALLS.get(next));
            }
        }
        return reached;
    }

    /** Methods that call one another count as one: what leaves their ring begins at each of them. */
    private static List<Element> deepestWay(Element from) {
        List<Element> known = DEEPEST_WAY.get(from);
        if (known != null) {
            return known;
        }
        List<Element> deepest = List.of();
        for (Element member : CALLS.keySet()) {
            boolean inRing = member == from || REACHED.get(from).contains(member) && REACHED.get(member).contains(from);
            for (Element called : inRing ? CALLS.get(member) : Set.<Element>of()) {
                boolean leaves = called != from && !REACHED.get(called).contains(from);
                if (leaves && deepestWay(called).size() > deepest.size()) {
                    deepest = deepestWay(called);
                }
            }
        }
        List<Element> way = new ArrayList<>();
        way.add(from);
        way.addAll(deepest);
        DEEPEST_WAY.put(from, way);
        return way;
    }

    private static final class Callers extends TreePathScanner<Void, Element> {
        private final Trees trees;

        Callers(Trees trees) {
            this.trees = trees;
        }

        @Override
        public Void visitMethod(MethodTree method, Element outer) {
            Element here = trees.getElement(getCurrentPath());
            CALLS.computeIfAbsent(here, element -> new LinkedHashSet<>());
            return super.visitMethod(method, here);
        }

        @Override
        public Void visitMethodInvocation(MethodInvocationTree call, Element caller) {
            note(call, caller);
            return super.visitMethodInvocation(call, caller);
        }

        @Override
        public Void visitNewClass(NewClassTree made, Element caller) {
            note(made, caller);
            return super.visitNewClass(made, caller);
        }

        private void note(Tree call, Element caller) {
            Element called = trees.getElement(getCurrentPath());
            if (caller != null && called != null) {
                CALLS.get(caller).add(called);
            }
        }
    }
}
