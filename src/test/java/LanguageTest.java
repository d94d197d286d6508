import com.sun.source.tree.AssertTree;
import com.sun.source.tree.ClassTree;
import com.sun.source.tree.CompilationUnitTree;
import com.sun.source.tree.ImportTree;
import com.sun.source.tree.LambdaExpressionTree;
import com.sun.source.tree.MemberReferenceTree;
import com.sun.source.tree.MemberSelectTree;
import com.sun.source.tree.MethodInvocationTree;
import com.sun.source.tree.MethodTree;
import com.sun.source.tree.NewArrayTree;
import com.sun.source.tree.NewClassTree;
import com.sun.source.tree.SynchronizedTree;
import com.sun.source.tree.ThrowTree;
import com.sun.source.tree.Tree;
import com.sun.source.tree.TryTree;
import com.sun.source.tree.VariableTree;
import com.sun.source.util.JavacTask;
import com.sun.source.util.SourcePositions;
import com.sun.source.util.TreeScanner;
import com.sun.source.util.Trees;
import java.nio.file.Path;
import java.util.HashMap;
import java.util.List;
import java.util.Map;
import java.util.Set;
import java.util.TreeSet;
import javax.lang.model.element.Modifier;
import javax.tools.JavaCompiler;
import javax.tools.StandardJavaFileManager;
import javax.tools.ToolProvider;

/** Reads the class as source: what LANGUAGE.md forbids or limits, as far as it shows in the source's form. */
public final class LanguageTest extends TreeScanner<Void, Void> {
    private static final int MOST_LINES = 60;
    private static final int MOST_PARAMETERS = 7;
    private static final int MOST_FIELDS = 20;
    private static final int MOST_CLASSES = 12;
    private static final int MOST_DEEP = 8;
    private static final Set<String> LIBRARY = Set.of("bitCount", "abs", "max", "min", "arraycopy", "length", "charAt");

    private final CompilationUnitTree unit;
    private final SourcePositions positions;
    private final Map<String, Set<String>> calls = new HashMap<>();
    private int classes = 0;
    private MethodTree method = null;

    private LanguageTest(CompilationUnitTree unit, SourcePositions positions) {
        this.unit = unit;
        this.positions = positions;
    }

    public static void main(String[] args) throws Exception {
        JavaCompiler compiler = ToolProvider.getSystemJavaCompiler();
        try (StandardJavaFileManager files = compiler.getStandardFileManager(null, null, null)) {
            JavacTask task = (JavacTask) compiler.getTask(null, files, null, List.of("-proc:none"), null,
                    files.getJavaFileObjects(Path.of("src/main/java/TwoQuarries.java")));
            SourcePositions positions = Trees.instance(task).getSourcePositions();
            for (CompilationUnitTree unit : task.parse()) {
                LanguageTest test = new LanguageTest(unit, positions);
                test.scan(unit, null);
                test.judge();
            }
        }
        Check.close("LanguageTest");
    }

    private void judge() {
        Check.due("no package", unit.getPackage() == null, true);
        Check.due("at most " + MOST_CLASSES + " classes: " + classes, classes <= MOST_CLASSES, true);
        for (String name : calls.keySet()) {
            int deep = depth(name, new TreeSet<>());
            Check.due("calls from " + name + " go " + deep + " deep", deep <= MOST_DEEP, true);
        }
        for (Map.Entry<String, Set<String>> entry : calls.entrySet()) {
            for (String called : entry.getValue()) {
                boolean known = calls.containsKey(called) || LIBRARY.contains(called);
                Check.due(entry.getKey() + " calls " + called, known, true);
            }
        }
    }

    /** The longest chain of calls, a method that calls itself counted once. */
    private int depth(String name, Set<String> open) {
        if (!calls.containsKey(name) || !open.add(name)) {
            return 0;
        }
        int deepest = 0;
        for (String called : calls.get(name)) {
            deepest = Math.max(deepest, depth(called, open));
        }
        open.remove(name);
        return deepest + 1;
    }

    private long line(long position) {
        return unit.getLineMap().getLineNumber(position);
    }

    private void forbidden(Tree tree, String what) {
        Check.due("no " + what + " in line " + line(positions.getStartPosition(unit, tree)), false, true);
    }

    @Override
    public Void visitClass(ClassTree tree, Void unused) {
        classes++;
        int fields = 0;
        for (Tree member : tree.getMembers()) {
            if (member instanceof VariableTree) {
                Set<Modifier> modifiers = ((VariableTree) member).getModifiers().getFlags();
                boolean isStatic = modifiers.contains(Modifier.STATIC);
                Check.due(((VariableTree) member).getName() + " is final if static",
                        !isStatic || modifiers.contains(Modifier.FINAL), true);
                fields += isStatic ? 0 : 1;
            }
            Check.due("no block in " + tree.getSimpleName(), member.getKind() == Tree.Kind.BLOCK, false);
        }
        Check.due("fields of " + tree.getSimpleName() + ": " + fields, fields <= MOST_FIELDS, true);
        return super.visitClass(tree, unused);
    }

    @Override
    public Void visitMethod(MethodTree tree, Void unused) {
        String name = tree.getName().toString();
        long lines = line(positions.getEndPosition(unit, tree)) - line(positions.getStartPosition(unit, tree)) + 1;
        Check.due(name + " has " + lines + " lines", lines <= MOST_LINES, true);
        Check.due("parameters of " + name, tree.getParameters().size() <= MOST_PARAMETERS, true);
        calls.putIfAbsent(name, new TreeSet<>());
        method = tree;
        super.visitMethod(tree, unused);
        method = null;
        return null;
    }

    @Override
    public Void visitMethodInvocation(MethodInvocationTree tree, Void unused) {
        Tree called = tree.getMethodSelect();
        String name = called instanceof MemberSelectTree ? ((MemberSelectTree) called).getIdentifier().toString()
                : called.toString();
        if (method != null && !name.equals("super")) {
            calls.get(method.getName().toString()).add(name);
        }
        return super.visitMethodInvocation(tree, unused);
    }

    @Override
    public Void visitNewClass(NewClassTree tree, Void unused) {
        madeOnlyInConstructors(tree);
        return super.visitNewClass(tree, unused);
    }

    @Override
    public Void visitNewArray(NewArrayTree tree, Void unused) {
        madeOnlyInConstructors(tree);
        return super.visitNewArray(tree, unused);
    }

    /** The room of a run is small: what an object needs is made with it. */
    private void madeOnlyInConstructors(Tree tree) {
        boolean late = method != null && !method.getName().contentEquals("<init>");
        Check.due("made late in line " + line(positions.getStartPosition(unit, tree)), late, false);
    }

    @Override
    public Void visitThrow(ThrowTree tree, Void unused) {
        forbidden(tree, "throw");
        return null;
    }

    @Override
    public Void visitTry(TryTree tree, Void unused) {
        forbidden(tree, "try");
        return null;
    }

    @Override
    public Void visitSynchronized(SynchronizedTree tree, Void unused) {
        forbidden(tree, "synchronized");
        return null;
    }

    @Override
    public Void visitAssert(AssertTree tree, Void unused) {
        forbidden(tree, "assert");
        return null;
    }

    @Override
    public Void visitLambdaExpression(LambdaExpressionTree tree, Void unused) {
        forbidden(tree, "lambda");
        return null;
    }

    @Override
    public Void visitMemberReference(MemberReferenceTree tree, Void unused) {
        forbidden(tree, "method reference");
        return null;
    }

    @Override
    public Void visitImport(ImportTree tree, Void unused) {
        forbidden(tree, "import");
        return null;
    }
}
