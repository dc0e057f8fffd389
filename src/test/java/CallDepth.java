import com.sun.source.tree.CompilationUnitTree;
import com.sun.source.tree.LineMap;
import com.sun.source.tree.MethodInvocationTree;
import com.sun.source.tree.MethodTree;
import com.sun.source.tree.NewClassTree;
import com.sun.source.util.JavacTask;
import com.sun.source.util.TreePathScanner;
import com.sun.source.util.Trees;
import java.io.File;
import java.io.IOException;
import java.util.ArrayList;
import java.util.HashMap;
import java.util.LinkedHashMap;
import java.util.LinkedHashSet;
import java.util.List;
import java.util.Map;
import java.util.Set;
import javax.lang.model.element.Element;
import javax.tools.JavaCompiler;
import javax.tools.StandardJavaFileManager;
import javax.tools.ToolProvider;

/** Rule 11 of LANGUAGE.md: methods are short, and calls go at most eight deep; run from the project's directory. */
public final class CallDepth {
    private static final File SOURCE = new File("src/main/java/SteadyShelf.java");
    private static final int MOST_LINES = 60;
    private static final int MOST_DEEP = 8;
    private static int wrong = 0;

    /** What each method of the class calls of the class itself. */
    private final Map<Element, Set<Element>> calls = new LinkedHashMap<>();
    private final Map<Element, List<Element>> deepest = new HashMap<>();
    private final Set<Element> entered = new LinkedHashSet<>();

    private static void say(String what) {
        wrong++;
        System.out.println(what);
    }

    /** Gathers calls, and looks at each method's length on its way. */
    private final class Gatherer extends TreePathScanner<Void, Element> {
        private final Trees trees;
        private final CompilationUnitTree unit;

        Gatherer(Trees trees, CompilationUnitTree unit) {
            this.trees = trees;
            this.unit = unit;
        }

        @Override
        public Void visitMethod(MethodTree method, Element outer) {
            LineMap lines = unit.getLineMap();
            long begin = lines.getLineNumber(trees.getSourcePositions().getStartPosition(unit, method));
            long end = lines.getLineNumber(trees.getSourcePositions().getEndPosition(unit, method));
            if (end - begin + 1 > MOST_LINES) {
                say(method.getName() + " has " + (end - begin + 1) + " lines");
            }
            Element element = trees.getElement(getCurrentPath());
            calls.put(element, new LinkedHashSet<>());
            return super.visitMethod(method, element);
        }

        @Override
        public Void visitMethodInvocation(MethodInvocationTree call, Element caller) {
            note(caller);
            return super.visitMethodInvocation(call, caller);
        }

        @Override
        public Void visitNewClass(NewClassTree call, Element caller) {
            note(caller);
            return super.visitNewClass(call, caller);
        }

        private void note(Element caller) {
            if (caller != null) {
                calls.get(caller).add(trees.getElement(getCurrentPath()));
            }
        }
    }

    private void gather() throws IOException {
        JavaCompiler compiler = ToolProvider.getSystemJavaCompiler();
        try (StandardJavaFileManager files = compiler.getStandardFileManager(null, null, null)) {
            JavacTask task = (JavacTask) compiler.getTask(null, files, null, List.of("-proc:none"), null,
                files.getJavaFileObjects(SOURCE));
            Iterable<? extends CompilationUnitTree> units = task.parse();
            task.analyze();
            for (CompilationUnitTree unit : units) {
                new Gatherer(Trees.instance(task), unit).scan(unit, null);
            }
        }
    }

    /** The longest row of calls that begins with this method. */
    private List<Element> deepestFrom(Element method) {
        if (deepest.containsKey(method)) {
            return deepest.get(method);
        }
        List<Element> best = new ArrayList<>();
        if (!entered.add(method)) {
            say(method + " calls itself");
            return best;
        }
        for (Element called : calls.get(method)) {
            if (calls.containsKey(called) && deepestFrom(called).size() > best.size()) {
                best = deepestFrom(called);
            }
        }
        entered.remove(method);
        List<Element> whole = new ArrayList<>(List.of(method));
        whole.addAll(best);
        deepest.put(method, whole);
        return whole;
    }

    private int checkDepth() {
        int most = 0;
        for (Element method : calls.keySet()) {
            List<Element> row = deepestFrom(method);
            most = Math.max(most, row.size());
            if (row.size() > MOST_DEEP) {
                say(row.size() + " deep: " + row);
            }
        }
        return most;
    }

    public static void main(String[] args) throws IOException {
        CallDepth depth = new CallDepth();
        depth.gather();
        int most = depth.checkDepth();
        if (depth.calls.size() < 30 || most < 2) {
            say("only " + depth.calls.size() + " methods were read, " + most + " deep");
        }
        System.out.println(depth.calls.size() + " methods, calls " + most + " deep, " + wrong + " faults");
        if (wrong != 0) {
            System.exit(1);
        }
    }
}
