import com.sun.source.tree.ClassTree;
import com.sun.source.tree.CompilationUnitTree;
import com.sun.source.tree.Tree;
import com.sun.source.util.JavacTask;
import com.sun.source.util.TreePath;
import com.sun.source.util.Trees;
import java.io.IOException;
import java.nio.file.Path;
import java.util.List;
import javax.lang.model.element.Element;
import javax.lang.model.element.ElementKind;
import javax.lang.model.element.TypeElement;
import javax.lang.model.type.DeclaredType;
import javax.lang.model.type.TypeKind;
import javax.lang.model.type.TypeMirror;
import javax.lang.model.util.Types;
import javax.tools.JavaCompiler;
import javax.tools.StandardJavaFileManager;
import javax.tools.ToolProvider;

/** The source of the class as the compiler reads it, so that no rule is asked of its layout. */
final class Source {
    static final String FILE = "src/main/java/WhoRules.java";

    final CompilationUnitTree unit;
    final Trees trees;
    final Types types;

    Source() throws IOException {
        JavaCompiler compiler = ToolProvider.getSystemJavaCompiler();
        StandardJavaFileManager files = compiler.getStandardFileManager(null, null, null);
        JavacTask task = (JavacTask) compiler.getTask(null, files, null, List.of("-proc:none"), null,
                files.getJavaFileObjects(Path.of(FILE)));
        unit = task.parse().iterator().next();
        task.analyze();
        trees = Trees.instance(task);
        types = task.getTypes();
    }

    /** The class of the document; other classes stand inside it. */
    ClassTree face() {
        return (ClassTree) unit.getTypeDecls().get(0);
    }

    Element elementAt(TreePath path) {
        return trees.getElement(path);
    }

    TypeMirror typeAt(TreePath path) {
        return trees.getTypeMirror(path);
    }

    /** Where a thing stands, for the reader of a test's words. */
    String placeOf(Tree tree) {
        return "line " + lineAt(trees.getSourcePositions().getStartPosition(unit, tree));
    }

    long linesOf(Tree tree) {
        return lineAt(trees.getSourcePositions().getEndPosition(unit, tree))
                - lineAt(trees.getSourcePositions().getStartPosition(unit, tree)) + 1;
    }

    private long lineAt(long position) {
        return unit.getLineMap().getLineNumber(position);
    }

    /** Whether a thing is told in this file. */
    static boolean isOwn(Element element) {
        return element != null && outermost(element).getSimpleName().contentEquals("WhoRules");
    }

    private static Element outermost(Element element) {
        Element at = element;
        while (at.getEnclosingElement() != null && at.getEnclosingElement().getKind() != ElementKind.PACKAGE) {
            at = at.getEnclosingElement();
        }
        return at;
    }

    /** The full name of a class, or an empty text of what is none. */
    static String nameOf(TypeMirror type) {
        if (type == null || type.getKind() != TypeKind.DECLARED) {
            return "";
        }
        return ((TypeElement) ((DeclaredType) type).asElement()).getQualifiedName().toString();
    }
}
