import com.sun.source.tree.BlockTree;
import com.sun.source.tree.ClassTree;
import com.sun.source.tree.CompilationUnitTree;
import com.sun.source.tree.MethodTree;
import com.sun.source.tree.Tree;
import com.sun.source.util.JavacTask;
import com.sun.source.util.SourcePositions;
import com.sun.source.util.Trees;
import java.io.IOException;
import java.nio.file.Files;
import java.nio.file.Path;
import java.util.List;
import javax.lang.model.element.Modifier;
import javax.tools.JavaCompiler;
import javax.tools.StandardJavaFileManager;
import javax.tools.ToolProvider;

/**
 * Writes a copy of the class that throws at the 513th call of an object. What later calls answer is free, so no test may
 * ask for it: the tests have to pass with this copy, too.
 */
public final class WornCopy {
    private static final String FIELD = " private int asked;", GUARD = " if (++asked > 512) { throw new IllegalStateException"
        + "(\"asked more than 512 times\"); }";

    private WornCopy() { }

    /** The folder that the copy is written to. */
    public static void main(String[] args) throws IOException {
        StringBuilder copy = new StringBuilder(Files.readString(Face.SOURCE));
        JavaCompiler compiler = ToolProvider.getSystemJavaCompiler();
        try (StandardJavaFileManager files = compiler.getStandardFileManager(null, null, null)) {
            JavacTask task = (JavacTask) compiler.getTask(null, files, null, List.of("-proc:none"), null,
                files.getJavaFileObjects(Face.SOURCE.toFile()));
            CompilationUnitTree unit = task.parse().iterator().next();
            guardCalls(unit, Trees.instance(task).getSourcePositions(), copy);
        }
        Files.writeString(Path.of(args[0], "SaltSaints.java"), copy);
    }

    /** From the last one to the first, so that what is put in moves no place that is still to come. */
    private static void guardCalls(CompilationUnitTree unit, SourcePositions positions, StringBuilder copy) {
        ClassTree outer = (ClassTree) unit.getTypeDecls().get(0);
        copy.insert((int) positions.getEndPosition(unit, outer) - 1, FIELD);
        for (int m = outer.getMembers().size() - 1; m >= 0; m--) {
            BlockTree body = bodyOfCall(outer.getMembers().get(m));
            if (body != null) {
                copy.insert((int) positions.getStartPosition(unit, body) + 1, GUARD);
            }
        }
    }

    private static BlockTree bodyOfCall(Tree member) {
        if (member instanceof MethodTree method && method.getReturnType() != null
            && method.getModifiers().getFlags().contains(Modifier.PUBLIC)) {
            return method.getBody();
        }
        return null;
    }
}
