import com.sun.source.tree.ClassTree;
import com.sun.source.tree.CompilationUnitTree;
import com.sun.source.tree.LineMap;
import com.sun.source.tree.MethodInvocationTree;
import com.sun.source.tree.MethodTree;
import com.sun.source.tree.NewArrayTree;
import com.sun.source.tree.NewClassTree;
import com.sun.source.tree.Tree;
import com.sun.source.util.JavacTask;
import com.sun.source.util.SourcePositions;
import com.sun.source.util.TreePathScanner;
import com.sun.source.util.Trees;
import java.io.IOException;
import java.nio.file.Path;
import java.util.EnumSet;
import java.util.List;
import java.util.Map;
import java.util.Set;
import java.util.TreeMap;
import java.util.TreeSet;
import javax.lang.model.element.Element;
import javax.lang.model.element.ElementKind;
import javax.lang.model.element.Modifier;
import javax.tools.JavaCompiler;
import javax.tools.StandardJavaFileManager;

/** The program as the compiler reads it: which method calls which, how long each is, where objects are made. */
final class Source extends TreePathScanner<Void, Void> {
    /** By method, those that it calls; a library's method has none of its own. */
    final Map<String, Set<String>> calls = new TreeMap<>();
    final Map<String, Integer> lines = new TreeMap<>();
    final Map<String, Integer> parameters = new TreeMap<>();
    /** Methods that make an object or an array. */
    final Set<String> makers = new TreeSet<>();
    final Set<String> publicMethods = new TreeSet<>();
    final Set<Tree.Kind> kinds = EnumSet.noneOf(Tree.Kind.class);
    /** Calls of methods that are not written in the file. */
    final Set<String> library = new TreeSet<>();

    private final Trees trees;
    private final SourcePositions positions;
    private final CompilationUnitTree unit;
    private String within = "";

    private Source(Trees trees, CompilationUnitTree unit) {
        this.trees = trees;
        this.unit = unit;
        positions = trees.getSourcePositions();
    }

    static Source read(JavaCompiler compiler, Path file) throws IOException {
        try (StandardJavaFileManager files = compiler.getStandardFileManager(null, null, null)) {
            JavacTask task = (JavacTask) compiler.getTask(null, files, null, List.of("-proc:none"), null,
                    files.getJavaFileObjects(file));
            CompilationUnitTree unit = task.parse().iterator().next();
            task.analyze();
            Source source = new Source(Trees.instance(task), unit);
            source.scan(unit, null);
            return source;
        }
    }

    private static String name(Element method) {
        return method.getEnclosingElement().getSimpleName() + "." + method.getSimpleName();
    }

    @Override
    public Void scan(Tree tree, Void nothing) {
        if (tree != null) {
            kinds.add(tree.getKind());
        }
        return super.scan(tree, nothing);
    }

    @Override
    public Void visitClass(ClassTree tree, Void nothing) {
        String outer = within;
        // What a field's initialiser does, the constructor does.
        within = tree.getSimpleName() + ".<init>";
        calls.putIfAbsent(within, new TreeSet<>());
        super.visitClass(tree, nothing);
        within = outer;
        return null;
    }

    @Override
    public Void visitMethod(MethodTree tree, Void nothing) {
        String outer = within;
        Element method = trees.getElement(getCurrentPath());
        within = name(method);
        calls.putIfAbsent(within, new TreeSet<>());
        if (tree.getBody() != null && positions.getEndPosition(unit, tree) >= 0) {
            LineMap map = unit.getLineMap();
            long first = map.getLineNumber(positions.getStartPosition(unit, tree));
            lines.put(within, (int) (map.getLineNumber(positions.getEndPosition(unit, tree)) - first + 1));
        }
        parameters.put(within, tree.getParameters().size());
        if (method.getModifiers().contains(Modifier.PUBLIC)) {
            publicMethods.add(within);
        }
        super.visitMethod(tree, nothing);
        within = outer;
        return null;
    }

    @Override
    public Void visitMethodInvocation(MethodInvocationTree tree, Void nothing) {
        callTo(trees.getElement(getCurrentPath()));
        return super.visitMethodInvocation(tree, nothing);
    }

    @Override
    public Void visitNewClass(NewClassTree tree, Void nothing) {
        makers.add(within);
        callTo(trees.getElement(getCurrentPath()));
        return super.visitNewClass(tree, nothing);
    }

    @Override
    public Void visitNewArray(NewArrayTree tree, Void nothing) {
        makers.add(within);
        return super.visitNewArray(tree, nothing);
    }

    private void callTo(Element method) {
        calls.get(within).add(name(method));
        boolean own = trees.getPath(method) != null || trees.getPath(method.getEnclosingElement()) != null;
        if (!own && method.getKind() != ElementKind.CONSTRUCTOR) {
            library.add(name(method));
        }
    }

    /** How many calls stand open at once behind this one, itself too; more than the most, if one comes back to itself. */
    int depth(String method, int most) {
        int deepest = 0;
        if (most > 0) {
            for (String next : calls.getOrDefault(method, Set.of())) {
                deepest = Math.max(deepest, depth(next, most - 1));
            }
        }
        return deepest + 1;
    }
}
