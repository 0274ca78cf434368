import com.sun.source.tree.CompilationUnitTree;
import com.sun.source.util.JavacTask;
import com.sun.source.util.Trees;
import java.io.IOException;
import java.nio.file.Path;
import java.util.List;
import javax.tools.JavaCompiler;
import javax.tools.StandardJavaFileManager;
import javax.tools.ToolProvider;

/**
 * That src/main/java/LadderMakers.java keeps to ../shared/LANGUAGE.md, as far as the tree of its
 * source tells it. Some rules leave more than the class needs; then what it needs is tested.
 */
public final class LanguageTests {
    private static final Path FILE = Path.of("src", "main", "java", "LadderMakers.java");

    public static void main(String[] args) throws IOException {
        JavaCompiler compiler = ToolProvider.getSystemJavaCompiler();
        try (StandardJavaFileManager files = compiler.getStandardFileManager(null, null, null)) {
            JavacTask task = (JavacTask) compiler.getTask(null, files, null, List.of("-proc:none"),
                    null, files.getJavaFileObjects(FILE));
            CompilationUnitTree unit = task.parse().iterator().next();
            task.analyze();
            Check.isTrue("rule 1: no package line", unit.getPackage() == null);
            Check.due("rule 1: classes outside of others", unit.getTypeDecls().size(), 1);
            Check.due("rule 4: imports", unit.getImports().size(), 0);
            SourceRules rules = new SourceRules(Trees.instance(task), unit);
            rules.scan(unit, null);
            rules.end();
        }
        Check.end();
    }
}
