import com.sun.source.tree.ClassTree;
import com.sun.source.tree.CompilationUnitTree;
import com.sun.source.tree.MethodTree;
import com.sun.source.tree.Tree;
import com.sun.source.util.JavacTask;
import com.sun.source.util.TreePath;
import com.sun.source.util.TreePathScanner;
import com.sun.source.util.Trees;
import java.io.IOException;
import java.nio.file.Path;
import java.util.ArrayList;
import java.util.EnumSet;
import java.util.List;
import java.util.Set;
import javax.lang.model.element.Element;
import javax.lang.model.type.TypeMirror;
import javax.tools.JavaCompiler;
import javax.tools.StandardJavaFileManager;
import javax.tools.ToolProvider;

/** A Java file as the compiler reads it: every part of it, with what stands around it and what it names. */
final class Source extends TreePathScanner<Void, Void> {
    private final List<TreePath> parts = new ArrayList<>();
    private final CompilationUnitTree unit;
    private final Trees trees;

    private Source(CompilationUnitTree unit, Trees trees) {
        this.unit = unit;
        this.trees = trees;
    }

    static Source read(Path file) throws IOException {
        JavaCompiler compiler = ToolProvider.getSystemJavaCompiler();
        try (StandardJavaFileManager files = compiler.getStandardFileManager(null, null, null)) {
            List<String> options = List.of("--release", "17", "-proc:none");
            JavacTask task =
                (JavacTask) compiler.getTask(null, files, null, options, null, files.getJavaFileObjects(file));
            CompilationUnitTree unit = task.parse().iterator().next();
            task.analyze();
            Source source = new Source(unit, Trees.instance(task));
            source.scan(new TreePath(unit), null);
            return source;
        }
    }

    @Override
    public Void scan(Tree tree, Void nothing) {
        if (tree != null) {
            parts.add(new TreePath(getCurrentPath(), tree));
        }
        return super.scan(tree, nothing);
    }

    List<TreePath> ofKinds(Tree.Kind first, Tree.Kind... others) {
        Set<Tree.Kind> kinds = EnumSet.of(first, others);
        List<TreePath> found = new ArrayList<>();
        for (TreePath part : parts) {
            if (kinds.contains(part.getLeaf().getKind())) {
                found.add(part);
            }
        }
        return found;
    }

    Element named(TreePath part) {
        return trees.getElement(part);
    }

    TypeMirror type(TreePath part) {
        return trees.getTypeMirror(part);
    }

    int line(Tree part) {
        return (int) unit.getLineMap().getLineNumber(trees.getSourcePositions().getStartPosition(unit, part));
    }

    int lines(Tree part) {
        long end = trees.getSourcePositions().getEndPosition(unit, part);
        return (int) unit.getLineMap().getLineNumber(end) - line(part) + 1;
    }

    /** The method in which a part stands; null where it stands in none. */
    static TreePath methodAround(TreePath part) {
        TreePath at = part;
        while (at != null && !(at.getLeaf() instanceof MethodTree)) {
            at = at.getParentPath();
        }
        return at;
    }

    static boolean isMemberOfAClass(TreePath part) {
        return part.getParentPath().getLeaf() instanceof ClassTree;
    }
}
