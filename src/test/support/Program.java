import com.sun.source.tree.BlockTree;
import com.sun.source.tree.ClassTree;
import com.sun.source.tree.CompilationUnitTree;
import com.sun.source.tree.MethodTree;
import com.sun.source.tree.Tree;
import com.sun.source.tree.VariableTree;
import com.sun.source.util.JavacTask;
import com.sun.source.util.SourcePositions;
import com.sun.source.util.Trees;
import java.io.IOException;
import java.nio.file.Path;
import java.util.ArrayList;
import java.util.List;
import javax.lang.model.element.Modifier;
import javax.tools.JavaCompiler;
import javax.tools.StandardJavaFileManager;
import javax.tools.ToolProvider;

/** The syntax tree of the program's source, and the faults that were found in it. */
final class Program {
    private final CompilationUnitTree unit;
    private final SourcePositions positions;
    private int faults = 0;

    private Program(CompilationUnitTree unit, SourcePositions positions) {
        this.unit = unit;
        this.positions = positions;
    }

    static Program read(Path source) throws IOException {
        JavaCompiler compiler = ToolProvider.getSystemJavaCompiler();
        try (StandardJavaFileManager files = compiler.getStandardFileManager(null, null, null)) {
            JavacTask task = (JavacTask) compiler.getTask(
                    null, files, null, null, null, files.getJavaFileObjects(source));
            CompilationUnitTree unit = task.parse().iterator().next();
            return new Program(unit, Trees.instance(task).getSourcePositions());
        }
    }

    void fault(int rule, Tree where, String what) {
        faults++;
        System.out.println("rule " + rule + ", line " + firstLine(where) + ": " + what);
    }

    int faults() {
        return faults;
    }

    CompilationUnitTree unit() {
        return unit;
    }

    ClassTree type() {
        return (ClassTree) unit.getTypeDecls().get(0);
    }

    List<VariableTree> fields() {
        return members(VariableTree.class);
    }

    List<MethodTree> methods() {
        return members(MethodTree.class);
    }

    List<ClassTree> nestedTypes() {
        return members(ClassTree.class);
    }

    List<BlockTree> initialisers() {
        return members(BlockTree.class);
    }

    private <T extends Tree> List<T> members(Class<T> kind) {
        List<T> found = new ArrayList<>();
        for (Tree member : type().getMembers()) {
            if (kind.isInstance(member)) {
                found.add(kind.cast(member));
            }
        }
        return found;
    }

    static boolean isStatic(VariableTree field) {
        return field.getModifiers().getFlags().contains(Modifier.STATIC);
    }

    long lines(Tree tree) {
        return lineAt(positions.getEndPosition(unit, tree)) - firstLine(tree) + 1;
    }

    private long firstLine(Tree tree) {
        return lineAt(positions.getStartPosition(unit, tree));
    }

    private long lineAt(long position) {
        return unit.getLineMap().getLineNumber(position);
    }
}
