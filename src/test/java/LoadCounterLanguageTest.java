import com.sun.source.tree.*;
import com.sun.source.util.JavacTask;
import com.sun.source.util.TreeScanner;
import java.nio.file.Path;
import java.util.EnumSet;
import java.util.HashSet;
import java.util.List;
import java.util.Set;
import javax.lang.model.element.Modifier;
import javax.tools.JavaCompiler;
import javax.tools.StandardJavaFileManager;
import javax.tools.ToolProvider;

/** Those rules of LANGUAGE.md that can be read off the source: given its path, tells what breaks them. */
public final class LoadCounterLanguageTest extends TreeScanner<Void, Void> {
    private static final Set<String> FACE = Set.of("NONE", "<init>", "feed", "end", "put", "plug", "take",
        "kind", "read", "tear", "fill", "row", "span", "turn", "cycle", "check", "detail", "bound", "mean",
        "limit", "worst", "crack", "step", "mend", "damage", "part", "parts", "left", "length", "due",
        "undo", "image", "again", "count");
    private static final Set<String> LIBRARY = Set.of("Math.min", "Math.max", "Math.abs");
    private static final Set<String> LIBRARY_CLASSES = Set.of("Math", "Integer", "Long", "System", "Arrays",
        "String", "Double", "Float", "Character", "Objects", "Collections");
    private static final Set<Tree.Kind> FORBIDDEN = EnumSet.of(Tree.Kind.LAMBDA_EXPRESSION,
        Tree.Kind.MEMBER_REFERENCE, Tree.Kind.SYNCHRONIZED, Tree.Kind.ASSERT, Tree.Kind.TRY,
        Tree.Kind.ANNOTATION_TYPE, Tree.Kind.FLOAT_LITERAL, Tree.Kind.DOUBLE_LITERAL);

    private final LineMap lines;
    private final CompilationUnitTree unit;
    private final com.sun.source.util.SourcePositions positions;
    private final Set<String> found = new HashSet<>();
    private int checked = 0;
    private int broken = 0;
    private int classes = 0;
    private int depth = 0;

    private LoadCounterLanguageTest(CompilationUnitTree unit, com.sun.source.util.SourcePositions positions) {
        this.unit = unit;
        this.lines = unit.getLineMap();
        this.positions = positions;
    }

    private long line(Tree t) {
        return lines.getLineNumber(positions.getStartPosition(unit, t));
    }

    private void rule(int number, boolean kept, Tree at, String what) {
        checked++;
        if (!kept) {
            broken++;
            System.out.println("rule " + number + ", line " + line(at) + ": " + what);
        }
    }

    private static boolean open(ModifiersTree m) {
        return !m.getFlags().contains(Modifier.PRIVATE);
    }

    private void faceMember(Tree at, String name, ModifiersTree m) {
        if (depth != 1) {
            return;
        }
        if (open(m)) {
            rule(1, FACE.contains(name) && m.getFlags().contains(Modifier.PUBLIC), at, name + " is not of the face");
            found.add(name);
        } else {
            rule(1, !FACE.contains(name) || at instanceof VariableTree, at, name + " has a name of the face");
        }
    }

    @Override
    public Void scan(Tree t, Void v) {
        if (t != null) {
            rule(6, !FORBIDDEN.contains(t.getKind()), t, "a " + t.getKind());
        }
        return super.scan(t, v);
    }

    @Override
    public Void visitImport(ImportTree t, Void v) {
        rule(4, t.getQualifiedIdentifier().toString().equals("java.util.NoSuchElementException"), t, t.toString());
        return super.visitImport(t, v);
    }

    @Override
    public Void visitClass(ClassTree t, Void v) {
        classes++;
        rule(2, depth == 0 || t.getModifiers().getFlags().contains(Modifier.STATIC), t, "a class not static");
        depth++;
        int fields = 0;
        for (Tree member : t.getMembers()) {
            rule(5, !(member instanceof BlockTree), member, "an initialiser block");
            if (member instanceof VariableTree) {
                Set<Modifier> flags = ((VariableTree) member).getModifiers().getFlags();
                fields += flags.contains(Modifier.STATIC) ? 0 : 1;
                rule(5, !flags.contains(Modifier.STATIC) || flags.contains(Modifier.FINAL), member, "not final");
                faceMember(member, ((VariableTree) member).getName().toString(), ((VariableTree) member).getModifiers());
            }
        }
        rule(11, fields <= 20, t, fields + " fields");
        super.visitClass(t, v);
        depth--;
        return null;
    }

    @Override
    public Void visitMethod(MethodTree t, Void v) {
        String name = t.getName().toString();
        faceMember(t, name, t.getModifiers());
        long from = line(t);
        long to = lines.getLineNumber(Math.max(0, positions.getEndPosition(unit, t)));
        rule(11, to - from < 60, t, name + " has " + (to - from + 1) + " lines");
        rule(11, t.getParameters().size() <= 7, t, name + " has too many parameters");
        return super.visitMethod(t, v);
    }

    @Override
    public Void visitMethodInvocation(MethodInvocationTree t, Void v) {
        String call = t.getMethodSelect().toString();
        int dot = call.indexOf('.');
        boolean library = dot > 0 && LIBRARY_CLASSES.contains(call.substring(0, dot));
        rule(4, !library || LIBRARY.contains(call), t, call);
        return super.visitMethodInvocation(t, v);
    }

    @Override
    public Void visitWhileLoop(WhileLoopTree t, Void v) {
        rule(9, false, t, "a loop whose end its lines do not show");
        return super.visitWhileLoop(t, v);
    }

    @Override
    public Void visitThrow(ThrowTree t, Void v) {
        rule(6, t.getExpression().toString().startsWith("new NoSuchElementException("), t, "another exception");
        return super.visitThrow(t, v);
    }

    public static void main(String[] args) throws Exception {
        JavaCompiler compiler = ToolProvider.getSystemJavaCompiler();
        StandardJavaFileManager files = compiler.getStandardFileManager(null, null, null);
        JavacTask task = (JavacTask) compiler.getTask(null, files, null, List.of("-proc:none"), null,
            files.getJavaFileObjects(Path.of(args[0])));
        CompilationUnitTree unit = task.parse().iterator().next();
        LoadCounterLanguageTest test =
            new LoadCounterLanguageTest(unit, com.sun.source.util.Trees.instance(task).getSourcePositions());
        test.scan(unit, null);
        test.rule(1, unit.getPackage() == null, unit, "a package");
        test.rule(1, test.found.containsAll(FACE), unit, "the face is not whole: " + test.found);
        test.rule(11, test.classes <= 12, unit, test.classes + " classes");
        System.out.println((test.checked - test.broken) + " passed, " + test.broken + " failed");
        if (test.broken != 0) {
            System.exit(1);
        }
    }
}
