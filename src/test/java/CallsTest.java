import com.sun.source.tree.CompilationUnitTree;
import com.sun.source.tree.MethodInvocationTree;
import com.sun.source.tree.MethodTree;
import com.sun.source.tree.NewClassTree;
import com.sun.source.tree.Tree;
import com.sun.source.tree.VariableTree;
import com.sun.source.util.JavacTask;
import com.sun.source.util.TreePath;
import com.sun.source.util.TreePathScanner;
import com.sun.source.util.Trees;
import java.io.File;
import java.io.IOException;
import java.util.HashMap;
import java.util.LinkedHashMap;
import java.util.LinkedHashSet;
import java.util.List;
import java.util.Map;
import java.util.Set;
import javax.lang.model.element.Element;
import javax.lang.model.element.ExecutableElement;
import javax.lang.model.element.Modifier;
import javax.lang.model.element.VariableElement;
import javax.tools.JavaCompiler;
import javax.tools.StandardJavaFileManager;
import javax.tools.ToolProvider;

/** Rules 8 and 11 of the language: which methods of the class call which, and how deep these calls go. */
public final class CallsTest {
    private static final String SOURCE = "src/main/java/EventHall.java";
    private static final int MOST_DEEP = 8, MOST_OPEN = 300;
    // A one within 30 others; blocks stand less deep.
    private static final int LEVELS = 31;

    private CallsTest() {
    }

    public static void main(String[] args) throws IOException {
        Map<Element, Set<Element>> calls = readCalls();
        Map<Element, Set<Element>> reached = reach(calls);
        Map<Element, Integer> depths = new HashMap<>();
        for (Element method : calls.keySet()) {
            int depth = depthOf(method, calls, reached, depths);
            if (method.getModifiers().contains(Modifier.PUBLIC)) {
                Due.isTrue(method + " calls " + depth + " deep", depth <= MOST_DEEP);
            }
        }
        recursions(reached);
        Due.close();
    }

    /** Of each method and constructor of the file those of the file that it calls. */
    private static Map<Element, Set<Element>> readCalls() throws IOException {
        JavaCompiler compiler = ToolProvider.getSystemJavaCompiler();
        try (StandardJavaFileManager files = compiler.getStandardFileManager(null, null, null)) {
            JavacTask task = (JavacTask) compiler.getTask(null, files, null, List.of("-proc:none"), null,
                    files.getJavaFileObjects(new File(SOURCE)));
            CallScanner scanner = new CallScanner(Trees.instance(task));
            Iterable<? extends CompilationUnitTree> units = task.parse();
            task.analyze();
            for (CompilationUnitTree unit : units) {
                scanner.scan(unit, null);
            }
            for (Set<Element> called : scanner.calls.values()) {
                called.retainAll(scanner.calls.keySet());
            }
            return scanner.calls;
        }
    }

    private static final class CallScanner extends TreePathScanner<Void, Void> {
        private final Trees trees;
        private final Map<Element, Set<Element>> calls = new LinkedHashMap<>();

        CallScanner(Trees trees) {
            this.trees = trees;
        }

        @Override
        public Void visitMethod(MethodTree node, Void none) {
            calls.putIfAbsent(trees.getElement(getCurrentPath()), new LinkedHashSet<>());
            return super.visitMethod(node, none);
        }

        @Override
        public Void visitMethodInvocation(MethodInvocationTree node, Void none) {
            keepCall();
            return super.visitMethodInvocation(node, none);
        }

        @Override
        public Void visitNewClass(NewClassTree node, Void none) {
            keepCall();
            return super.visitNewClass(node, none);
        }

        private void keepCall() {
            Element called = trees.getElement(getCurrentPath());
            Element caller = callerOf(getCurrentPath());
            if (called != null && caller != null) {
                calls.computeIfAbsent(caller, any -> new LinkedHashSet<>()).add(called);
            }
        }

        /** What a field's first value calls is called by the constructor; each class has one at most. */
        private Element callerOf(TreePath path) {
            for (TreePath one = path; one != null; one = one.getParentPath()) {
                Tree tree = one.getLeaf();
                if (tree instanceof MethodTree) {
                    return trees.getElement(one);
                }
                boolean isField = tree instanceof VariableTree
                        && one.getParentPath().getLeaf().getKind() == Tree.Kind.CLASS;
                if (isField) {
                    return constructorOf(trees.getElement(one).getEnclosingElement());
                }
            }
            return null;
        }

        private static Element constructorOf(Element type) {
            for (Element member : type.getEnclosedElements()) {
                if (member.getSimpleName().contentEquals("<init>")) {
                    return member;
                }
            }
            return null;
        }
    }

    /** Of each method those that it calls, by others too. */
    private static Map<Element, Set<Element>> reach(Map<Element, Set<Element>> calls) {
        Map<Element, Set<Element>> reached = new LinkedHashMap<>();
        for (Element method : calls.keySet()) {
            Set<Element> known = new LinkedHashSet<>(calls.get(method));
            int before = -1;
            while (before != known.size()) {
                before = known.size();
                for (Element one : Set.copyOf(known)) {
                    known.addAll(calls.get(one));
                }
            }
            reached.put(method, known);
        }
        return reached;
    }

    private static boolean areOneRecursion(Element a, Element b, Map<Element, Set<Element>> reached) {
        return a == b || reached.get(a).contains(b) && reached.get(b).contains(a);
    }

    /** The longest row of calls that begins with this one; all of a recursion are one call in it. */
    private static int depthOf(Element method, Map<Element, Set<Element>> calls,
            Map<Element, Set<Element>> reached, Map<Element, Integer> depths) {
        Integer known = depths.get(method);
        if (known != null) {
            return known;
        }
        int depth = 1;
        for (Element one : calls.keySet()) {
            if (!areOneRecursion(one, method, reached)) {
                continue;
            }
            for (Element called : calls.get(one)) {
                if (!areOneRecursion(called, method, reached)) {
                    depth = Math.max(depth, 1 + depthOf(called, calls, reached, depths));
                }
            }
        }
        depths.put(method, depth);
        return depth;
    }

    /** Each method that calls itself, by others too, carries the depth; all levels together stay few. */
    private static void recursions(Map<Element, Set<Element>> reached) {
        int count = 0;
        for (Element method : reached.keySet()) {
            if (reached.get(method).contains(method)) {
                count++;
                Due.isTrue(method + " carries its depth", carriesDepth((ExecutableElement) method));
            }
        }
        Due.isTrue("recursive methods are found", count > 0);
        Due.isTrue(count + " recursive methods", count * LEVELS + MOST_DEEP < MOST_OPEN);
    }

    private static boolean carriesDepth(ExecutableElement method) {
        for (VariableElement parameter : method.getParameters()) {
            if (parameter.getSimpleName().contentEquals("depth")) {
                return true;
            }
        }
        return false;
    }
}
