import com.sun.source.tree.CompilationUnitTree;
import com.sun.source.tree.IdentifierTree;
import com.sun.source.tree.MethodInvocationTree;
import com.sun.source.tree.MethodTree;
import com.sun.source.tree.Tree;
import com.sun.source.util.JavacTask;
import com.sun.source.util.TreePath;
import com.sun.source.util.TreePathScanner;
import com.sun.source.util.Trees;
import java.io.File;
import java.io.IOException;
import java.util.ArrayList;
import java.util.List;
import java.util.Map;
import java.util.Set;
import java.util.TreeMap;
import java.util.TreeSet;
import javax.lang.model.element.Element;
import javax.lang.model.element.VariableElement;
import javax.lang.model.type.TypeKind;
import javax.lang.model.type.TypeMirror;
import javax.tools.JavaCompiler;
import javax.tools.StandardJavaFileManager;
import javax.tools.ToolProvider;

/** A Java file as the compiler reads it: all its parts, and what the compiler knows of each. */
final class Source {
    final CompilationUnitTree unit;
    private final List<TreePath> parts = new ArrayList<>();
    private final Trees trees;

    Source(String file) throws IOException {
        JavaCompiler compiler = ToolProvider.getSystemJavaCompiler();
        StandardJavaFileManager files = compiler.getStandardFileManager(null, null, null);
        List<String> options = List.of("--release", "17", "-proc:none");
        JavacTask task = (JavacTask) compiler.getTask(
            null, files, null, options, null, files.getJavaFileObjects(new File(file)));
        trees = Trees.instance(task);
        unit = task.parse().iterator().next();
        // Collected before the analysis, which writes calls into the tree that no one has written in the file.
        new TreePathScanner<Void, Void>() {
            @Override
            public Void scan(Tree part, Void nothing) {
                if (part != null) {
                    parts.add(new TreePath(getCurrentPath(), part));
                }
                return super.scan(part, nothing);
            }
        }.scan(new TreePath(unit), null);
        task.analyze();
    }

    /** The parts of a kind, with the way to each from the top of the file. */
    List<TreePath> paths(Class<? extends Tree> kind) {
        List<TreePath> found = new ArrayList<>();
        for (TreePath path : parts) {
            if (kind.isInstance(path.getLeaf())) {
                found.add(path);
            }
        }
        return found;
    }

    <T extends Tree> List<T> all(Class<T> kind) {
        List<T> found = new ArrayList<>();
        for (TreePath path : paths(kind)) {
            found.add(kind.cast(path.getLeaf()));
        }
        return found;
    }

    /** The parts of a kind that stand inside one part, itself not counted. */
    <T extends Tree> List<T> inside(Tree whole, Class<T> kind) {
        List<T> found = new ArrayList<>();
        for (TreePath path : paths(kind)) {
            if (path.getLeaf() != whole && isInside(path, whole)) {
                found.add(kind.cast(path.getLeaf()));
            }
        }
        return found;
    }

    private static boolean isInside(TreePath path, Tree whole) {
        for (Tree part : path) {
            if (part == whole) {
                return true;
            }
        }
        return false;
    }

    Element element(Tree part) {
        return trees.getElement(trees.getPath(unit, part));
    }

    TypeKind type(Tree part) {
        TypeMirror type = trees.getTypeMirror(trees.getPath(unit, part));
        return type == null ? TypeKind.NONE : type.getKind();
    }

    /** What a name stands for if it is a constant, else null. */
    Object constant(Tree name) {
        return element(name) instanceof VariableElement variable ? variable.getConstantValue() : null;
    }

    /** For each method the methods of the file that it calls by their plain names. */
    Map<String, Set<String>> calls() {
        Map<String, Set<String>> calls = new TreeMap<>();
        for (MethodTree method : all(MethodTree.class)) {
            Set<String> called = new TreeSet<>();
            for (MethodInvocationTree call : inside(method, MethodInvocationTree.class)) {
                if (call.getMethodSelect() instanceof IdentifierTree name) {
                    called.add(name.getName().toString());
                }
            }
            calls.put(method.getName().toString(), called);
        }
        return calls;
    }

    int lines(Tree part) {
        long from = trees.getSourcePositions().getStartPosition(unit, part);
        long to = trees.getSourcePositions().getEndPosition(unit, part);
        return (int) (unit.getLineMap().getLineNumber(to) - unit.getLineMap().getLineNumber(from) + 1);
    }
}
