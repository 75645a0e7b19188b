import com.sun.source.tree.CompilationUnitTree;
import com.sun.source.tree.LineMap;
import com.sun.source.tree.MethodInvocationTree;
import com.sun.source.tree.MethodTree;
import com.sun.source.tree.NewArrayTree;
import com.sun.source.tree.NewClassTree;
import com.sun.source.tree.Tree;
import com.sun.source.util.JavacTask;
import com.sun.source.util.SourcePositions;
import com.sun.source.util.TreeScanner;
import com.sun.source.util.Trees;
import java.io.IOException;
import java.nio.file.Path;
import java.util.List;
import java.util.Set;
import javax.tools.JavaCompiler;
import javax.tools.StandardJavaFileManager;
import javax.tools.ToolProvider;

/**
 * Objects and rows are made in constructors and in what fields begin with, nowhere else. RoomTest measures the same, but
 * only in the calls that it does, and what the machine makes away with it can't see.
 */
public final class MakingTest {
    private static final Set<String> MAKERS = Set.of("copyOf", "copyOfRange", "clone", "substring", "toCharArray",
        "toString", "valueOf");

    private final Check check = new Check();
    private int makings;

    public static void main(String[] args) throws IOException {
        MakingTest test = new MakingTest();
        test.read(Path.of(System.getProperty("seedbench.source", "src/main/java/SeedBench.java")));
        test.check.due("something is made", test.makings > 0, true);
        test.check.end();
    }

    private void read(Path source) throws IOException {
        JavaCompiler compiler = ToolProvider.getSystemJavaCompiler();
        try (StandardJavaFileManager files = compiler.getStandardFileManager(null, null, null)) {
            JavacTask task = (JavacTask) compiler.getTask(null, files, null, List.of("-proc:none"), null,
                    files.getJavaFileObjects(source));
            SourcePositions positions = Trees.instance(task).getSourcePositions();
            for (CompilationUnitTree unit : task.parse()) {
                new Finder(unit, positions).scan(unit, null);
            }
        }
    }

    private final class Finder extends TreeScanner<Void, String> {
        private final CompilationUnitTree unit;
        private final SourcePositions positions;

        Finder(CompilationUnitTree unit, SourcePositions positions) {
            this.unit = unit;
            this.positions = positions;
        }

        @Override
        public Void visitMethod(MethodTree method, String around) {
            return super.visitMethod(method, method.getName().toString());
        }

        @Override
        public Void visitNewClass(NewClassTree made, String around) {
            found(made, around);
            return super.visitNewClass(made, around);
        }

        @Override
        public Void visitNewArray(NewArrayTree made, String around) {
            found(made, around);
            return super.visitNewArray(made, around);
        }

        @Override
        public Void visitMethodInvocation(MethodInvocationTree call, String around) {
            String called = call.getMethodSelect().toString();
            if (MAKERS.contains(called.substring(called.lastIndexOf('.') + 1))) {
                found(call, around);
            }
            return super.visitMethodInvocation(call, around);
        }

        private void found(Tree made, String around) {
            makings++;
            LineMap lines = unit.getLineMap();
            long line = lines.getLineNumber(positions.getStartPosition(unit, made));
            boolean inMethod = around != null && !around.equals("<init>");
            check.due("line " + line + " makes " + made + " in the method " + around, inMethod, false);
        }
    }
}
