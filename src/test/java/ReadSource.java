import com.sun.source.tree.CompilationUnitTree;
import com.sun.source.tree.LineMap;
import com.sun.source.tree.MethodTree;
import com.sun.source.tree.Tree;
import com.sun.source.util.JavacTask;
import com.sun.source.util.SourcePositions;
import com.sun.source.util.TreePath;
import com.sun.source.util.Trees;
import java.io.IOException;
import java.nio.file.Path;
import java.util.ArrayList;
import java.util.List;
import javax.lang.model.element.Element;
import javax.lang.model.type.TypeKind;
import javax.tools.Diagnostic;
import javax.tools.DiagnosticCollector;
import javax.tools.JavaCompiler;
import javax.tools.JavaFileObject;
import javax.tools.StandardJavaFileManager;
import javax.tools.ToolProvider;

/** A source file as the compiler reads it: its tree, with the meaning of each name in it. */
final class ReadSource {
    private final CompilationUnitTree unit;
    private final Trees trees;
    private final List<Element> classes = new ArrayList<>();
    private final List<String> complaints = new ArrayList<>();

    private ReadSource(CompilationUnitTree unit, Trees trees) {
        this.unit = unit;
        this.trees = trees;
    }

    static ReadSource of(Path path) throws IOException {
        JavaCompiler compiler = ToolProvider.getSystemJavaCompiler();
        DiagnosticCollector<JavaFileObject> said = new DiagnosticCollector<>();
        try (StandardJavaFileManager files = compiler.getStandardFileManager(said, null, null)) {
            JavacTask task = (JavacTask) compiler.getTask(null, files, said, List.of("-Xlint:all", "-proc:none"), null,
                files.getJavaFileObjects(path));
            ReadSource source = new ReadSource(task.parse().iterator().next(), Trees.instance(task));
            for (Element one : task.analyze()) {
                source.addClass(one);
            }
            for (Diagnostic<?> complaint : said.getDiagnostics()) {
                source.complaints.add(complaint.toString());
            }
            return source;
        }
    }

    private void addClass(Element element) {
        if (element.getKind().isClass() || element.getKind().isInterface()) {
            classes.add(element);
            element.getEnclosedElements().forEach(this::addClass);
        }
    }

    CompilationUnitTree unit() {
        return unit;
    }

    /** The class of the file and the classes inside it. */
    List<Element> classes() {
        return classes;
    }

    /** What the compiler says of the source, warnings too. */
    List<String> complaints() {
        return complaints;
    }

    Element elementOf(TreePath path) {
        return trees.getElement(path);
    }

    String typeOf(TreePath path) {
        return trees.getTypeMirror(path).toString();
    }

    TypeKind kindOf(TreePath path) {
        return trees.getTypeMirror(path).getKind();
    }

    TreePath pathOf(Tree tree) {
        return trees.getPath(unit, tree);
    }

    /** The method or constructor around a place, or null in a field's initialiser. */
    Element methodAround(TreePath place) {
        for (TreePath path = place; path != null; path = path.getParentPath()) {
            if (path.getLeaf() instanceof MethodTree) {
                return elementOf(path);
            }
        }
        return null;
    }

    long lineOf(Tree tree) {
        return lineAt(trees.getSourcePositions().getStartPosition(unit, tree));
    }

    long linesOf(Tree tree) {
        SourcePositions positions = trees.getSourcePositions();
        return lineAt(positions.getEndPosition(unit, tree)) - lineAt(positions.getStartPosition(unit, tree)) + 1;
    }

    private long lineAt(long position) {
        LineMap lines = unit.getLineMap();
        return position < 0 ? 0 : lines.getLineNumber(position);
    }
}
