import com.sun.source.tree.ClassTree;
import com.sun.source.tree.CompilationUnitTree;
import com.sun.source.tree.MethodInvocationTree;
import com.sun.source.tree.MethodTree;
import com.sun.source.tree.NewClassTree;
import com.sun.source.tree.Tree;
import com.sun.source.util.JavacTask;
import com.sun.source.util.TreePath;
import com.sun.source.util.TreePathScanner;
import com.sun.source.util.Trees;
import java.io.IOException;
import java.nio.file.Path;
import java.util.ArrayList;
import java.util.HashMap;
import java.util.HashSet;
import java.util.LinkedHashMap;
import java.util.List;
import java.util.Map;
import java.util.Set;
import javax.lang.model.element.Element;
import javax.lang.model.element.Modifier;
import javax.tools.JavaCompiler;
import javax.tools.StandardJavaFileManager;
import javax.tools.ToolProvider;

/**
 * Who calls whom in the class: eight calls deep at most, a recursion counted once (rule 11 of
 * LANGUAGE.md), and only private methods call themselves or one another (rule 8).
 */
public final class DepthTests {
    private static final int DEEPEST = 8;
    private static final Map<Element, Set<Element>> CALLS = new LinkedHashMap<>();
    private static final Map<Element, Set<Element>> REACHED = new HashMap<>();
    private static final Map<Element, Integer> DEPTHS = new HashMap<>();
    private static int wrong;

    public static void main(String[] args) throws IOException {
        read(Path.of(args[0]));
        for (Element method : CALLS.keySet()) {
            REACHED.put(method, reached(method));
        }
        int deepest = 0;
        int circles = 0;
        for (Element method : CALLS.keySet()) {
            deepest = Math.max(deepest, depth(method));
            if (depth(method) > DEEPEST) {
                fault("too deep, " + depth(method) + " calls: " + named(method));
            }
            if (REACHED.get(method).contains(method)) {
                circles++;
                if (!method.getModifiers().contains(Modifier.PRIVATE)) {
                    fault("calls itself and is not private: " + named(method));
                }
            }
        }
        if (CALLS.size() < 41 || circles == 0) {
            fault("the calls of the class were not read");
        }
        System.out.println("DepthTests: " + CALLS.size() + " methods, " + deepest + " calls deep, "
                + circles + " of them in recursions, " + wrong + " faults");
        System.exit(wrong == 0 ? 0 : 1);
    }

    private static void fault(String text) {
        wrong++;
        System.out.println(text);
    }

    private static String named(Element method) {
        return method.getEnclosingElement() + "." + method;
    }

    private static void read(Path source) throws IOException {
        JavaCompiler compiler = ToolProvider.getSystemJavaCompiler();
        try (StandardJavaFileManager files = compiler.getStandardFileManager(null, null, null)) {
            JavacTask task = (JavacTask) compiler.getTask(null, files, null, List.of("-proc:none"), null,
                    files.getJavaFileObjects(source));
            List<CompilationUnitTree> units = new ArrayList<>();
            for (CompilationUnitTree unit : task.parse()) {
                units.add(unit);
            }
            task.analyze();
            Trees trees = Trees.instance(task);
            for (CompilationUnitTree unit : units) {
                new Scanner(trees).scan(unit, null);
            }
        }
        Set<Element> own = CALLS.keySet();
        CALLS.values().forEach(callees -> callees.retainAll(own));
    }

    /** Notes the calls by the method in which they stand; what initialises a field belongs to none. */
    private static final class Scanner extends TreePathScanner<Void, Void> {
        private final Trees trees;
        private Element caller;

        Scanner(Trees trees) {
            this.trees = trees;
        }

        @Override
        public Void visitClass(ClassTree tree, Void unused) {
            Element before = caller;
            caller = null;
            super.visitClass(tree, unused);
            caller = before;
            return null;
        }

        @Override
        public Void visitMethod(MethodTree tree, Void unused) {
            caller = trees.getElement(getCurrentPath());
            CALLS.computeIfAbsent(caller, key -> new HashSet<>());
            super.visitMethod(tree, unused);
            caller = null;
            return null;
        }

        @Override
        public Void visitMethodInvocation(MethodInvocationTree tree, Void unused) {
            note(tree.getMethodSelect());
            return super.visitMethodInvocation(tree, unused);
        }

        @Override
        public Void visitNewClass(NewClassTree tree, Void unused) {
            note(tree);
            return super.visitNewClass(tree, unused);
        }

        private void note(Tree called) {
            Element callee = trees.getElement(new TreePath(getCurrentPath(), called));
            if (caller != null && callee != null) {
                CALLS.get(caller).add(callee);
            }
        }
    }

    private static Set<Element> reached(Element from) {
        Set<Element> seen = new HashSet<>();
        List<Element> open = new ArrayList<>(CALLS.get(from));
        while (!open.isEmpty()) {
            Element next = open.remove(open.size() - 1);
            if (seen.add(next)) {
                open.addAll(CALLS.get(next));
            }
        }
        return seen;
    }

    private static boolean inOneCircle(Element a, Element b) {
        return a.equals(b) || REACHED.get(a).contains(b) && REACHED.get(b).contains(a);
    }

    /** The calls that stand open at most from this one inwards; those of one recursion count as one. */
    private static int depth(Element method) {
        Integer known = DEPTHS.get(method);
        if (known != null) {
            return known;
        }
        int deepest = 0;
        for (Element other : CALLS.keySet()) {
            if (inOneCircle(method, other)) {
                for (Element callee : CALLS.get(other)) {
                    if (!inOneCircle(method, callee)) {
                        deepest = Math.max(deepest, depth(callee));
                    }
                }
            }
        }
        DEPTHS.put(method, deepest + 1);
        return deepest + 1;
    }
}
