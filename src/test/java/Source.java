import com.sun.source.tree.CompilationUnitTree;
import com.sun.source.tree.LineMap;
import com.sun.source.tree.LiteralTree;
import com.sun.source.tree.MethodTree;
import com.sun.source.tree.Tree;
import com.sun.source.util.JavacTask;
import com.sun.source.util.SourcePositions;
import com.sun.source.util.TreePath;
import com.sun.source.util.Trees;
import java.io.IOException;
import java.nio.file.Path;
import java.util.List;
import javax.lang.model.element.Element;
import javax.lang.model.element.TypeElement;
import javax.lang.model.element.VariableElement;
import javax.tools.JavaCompiler;
import javax.tools.StandardJavaFileManager;
import javax.tools.ToolProvider;

/** The class's source as javac reads it. It is read from the project's folder, so tests of it are run there. */
final class Source {
    static final Path PATH = Path.of("src/main/java/PinDuties.java");

    final CompilationUnitTree unit;
    private final Trees trees;
    private final SourcePositions positions;
    private final LineMap lines;

    private Source(CompilationUnitTree unit, Trees trees) {
        this.unit = unit;
        this.trees = trees;
        positions = trees.getSourcePositions();
        lines = unit.getLineMap();
    }

    static Source read() throws IOException {
        JavaCompiler compiler = ToolProvider.getSystemJavaCompiler();
        try (StandardJavaFileManager files = compiler.getStandardFileManager(null, null, null)) {
            JavacTask task = (JavacTask) compiler.getTask(null, files, null, List.of("--release", "17"), null,
                files.getJavaFileObjects(PATH));
            CompilationUnitTree unit = task.parse().iterator().next();
            task.analyze();
            return new Source(unit, Trees.instance(task));
        }
    }

    /** Whether it stands in the file: javac adds the constructors that are not written. */
    boolean isWritten(Tree tree) {
        return positions.getEndPosition(unit, tree) >= 0;
    }

    String lineOf(Tree tree) {
        long at = positions.getStartPosition(unit, tree);
        return "line " + (at < 0 ? 0 : lines.getLineNumber(at));
    }

    long linesOf(Tree tree) {
        long from = lines.getLineNumber(positions.getStartPosition(unit, tree));
        return lines.getLineNumber(positions.getEndPosition(unit, tree)) - from + 1;
    }

    Element elementOf(TreePath path) {
        return trees.getElement(path);
    }

    String nameOf(TreePath path) {
        return nameOf(elementOf(path));
    }

    String nameOf(Element method) {
        return ((TypeElement) method.getEnclosingElement()).getQualifiedName() + "." + method.getSimpleName();
    }

    boolean isOwn(Element method) {
        return method.getEnclosingElement().toString().matches("PinDuties(\\..*)?");
    }

    /** The method in which a place stands; null: it stands in a field. */
    TreePath methodAround(TreePath path) {
        TreePath at = path;
        while (at != null && !(at.getLeaf() instanceof MethodTree)) {
            at = at.getParentPath();
        }
        return at;
    }

    MethodTree methodTreeAround(TreePath path) {
        TreePath at = methodAround(path);
        return at == null ? null : (MethodTree) at.getLeaf();
    }

    /** Whether a part of what stands at a place is a constant other than 0. */
    boolean isConstantButNought(Tree part, TreePath at) {
        if (part instanceof LiteralTree literal) {
            return literal.getValue() instanceof Number n && n.longValue() != 0;
        }
        Element element = elementOf(new TreePath(at, part));
        return element instanceof VariableElement v && v.getConstantValue() instanceof Number n && n.longValue() != 0;
    }
}
