import com.sun.source.tree.*;
import com.sun.source.util.JavacTask;
import com.sun.source.util.TreePathScanner;
import com.sun.source.util.Trees;
import java.nio.file.Path;
import java.util.ArrayList;
import java.util.HashMap;
import java.util.HashSet;
import java.util.List;
import java.util.Map;
import java.util.Set;
import javax.lang.model.element.Element;
import javax.lang.model.element.ElementKind;
import javax.tools.JavaCompiler;
import javax.tools.StandardJavaFileManager;
import javax.tools.ToolProvider;

/**
 * What rules 8, 11 and 12 of LANGUAGE.md, and the one ROOM of all calls, ask of how the methods
 * call one another and of where objects are made: given the path of the source, tells what breaks them.
 */
public final class LoadCounterCallsTest extends TreePathScanner<Void, Void> {
    private static final int MOST_DEEP = 8;

    private final Trees trees;
    private final Map<Element, Set<Element>> calls = new HashMap<>();
    private final List<String> makers = new ArrayList<>();
    private Element method;
    private boolean thrown;

    private LoadCounterCallsTest(Trees trees) {
        this.trees = trees;
    }

    @Override
    public Void visitMethod(MethodTree t, Void v) {
        Element around = method;
        method = trees.getElement(getCurrentPath());
        calls.computeIfAbsent(method, m -> new HashSet<>());
        super.visitMethod(t, v);
        method = around;
        return null;
    }

    private void called() {
        Element to = trees.getElement(getCurrentPath());
        if (method != null && to != null) {
            calls.get(method).add(to);
        }
    }

    @Override
    public Void visitMethodInvocation(MethodInvocationTree t, Void v) {
        called();
        return super.visitMethodInvocation(t, v);
    }

    private void makes(Tree t) {
        if (method != null && method.getKind() != ElementKind.CONSTRUCTOR && !thrown) {
            makers.add(method + ": " + t);
        }
    }

    @Override
    public Void visitNewClass(NewClassTree t, Void v) {
        called();
        makes(t);
        return super.visitNewClass(t, v);
    }

    @Override
    public Void visitNewArray(NewArrayTree t, Void v) {
        makes(t);
        return super.visitNewArray(t, v);
    }

    @Override
    public Void visitThrow(ThrowTree t, Void v) {
        thrown = true;
        super.visitThrow(t, v);
        thrown = false;
        return null;
    }

    /** How deep the calls from here go; more than MOST_DEEP of a method that comes to itself. */
    private int deep(Element from, int above) {
        int most = 1;
        for (Element to : calls.getOrDefault(from, Set.of())) {
            if (calls.containsKey(to) && above <= MOST_DEEP) {
                most = Math.max(most, 1 + deep(to, above + 1));
            }
        }
        return most;
    }

    public static void main(String[] args) throws Exception {
        JavaCompiler compiler = ToolProvider.getSystemJavaCompiler();
        StandardJavaFileManager files = compiler.getStandardFileManager(null, null, null);
        JavacTask task = (JavacTask) compiler.getTask(null, files, null, List.of("-proc:none"), null,
            files.getJavaFileObjects(Path.of(args[0])));
        CompilationUnitTree unit = task.parse().iterator().next();
        task.analyze();
        LoadCounterCallsTest test = new LoadCounterCallsTest(Trees.instance(task));
        test.scan(unit, null);
        int passed = 0;
        int failed = 0;
        for (Element from : test.calls.keySet()) {
            if (test.deep(from, 1) <= MOST_DEEP) {
                passed++;
            } else {
                failed++;
                System.out.println("rule 8 or 11: the calls of " + from + " go too deep");
            }
        }
        // The IMAGE's own board is made once, by the first image(), and by no other call.
        boolean imageAlone = test.makers.size() == 1 && test.makers.get(0).equals("image(): new Board()");
        if (!imageAlone) {
            failed++;
            System.out.println("rule 12: objects are made in " + test.makers);
        }
        System.out.println(passed + " passed, " + failed + " failed");
        if (failed != 0) {
            System.exit(1);
        }
    }
}
