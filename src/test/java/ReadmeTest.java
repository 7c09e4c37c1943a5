import java.io.ByteArrayOutputStream;
import java.io.IOException;
import java.io.PrintStream;
import java.net.URL;
import java.net.URLClassLoader;
import java.nio.charset.StandardCharsets;
import java.nio.file.Files;
import java.nio.file.Path;
import java.util.ArrayList;
import java.util.List;
import java.util.stream.Stream;
import javax.tools.ToolProvider;

/** What README.md tells holds: its example is the file, runs, and prints what it says; its tests are those that there are. */
public final class ReadmeTest {
    private static final String EXAMPLE = "src/example/java/Example.java", TESTS = "src/test/java";

    private final Check check = new Check("readme");
    private final String readme = Files.readString(Path.of("README.md"));

    private ReadmeTest() throws IOException {
    }

    public static void main(String[] args) throws Exception {
        ReadmeTest t = new ReadmeTest();
        t.exampleIsTheFile();
        t.exampleRuns();
        t.commandsNameFiles();
        t.testsAreNamed();
        t.check.end();
    }

    /** The blocks of a kind, as ```java begins one of java. */
    private List<String> blocks(String kind) {
        List<String> blocks = new ArrayList<>();
        String mark = "```" + kind + "\n";
        for (int at = readme.indexOf(mark); at >= 0; at = readme.indexOf(mark, at + 1)) {
            blocks.add(readme.substring(at + mark.length(), readme.indexOf("```", at + mark.length())));
        }
        return blocks;
    }

    private void exampleIsTheFile() throws IOException {
        check.text("the example", blocks("java").contains(Files.readString(Path.of(EXAMPLE))) ? "stands" : "differs", "stands");
    }

    private void exampleRuns() throws Exception {
        Path out = Files.createTempDirectory("example");
        int code = ToolProvider.getSystemJavaCompiler().run(null, null, null, "-Xlint:all", "-Werror", "-d", out.toString(),
                "src/main/java/WhoRules.java", EXAMPLE);
        check.due("the example compiles", code, 0);
        ByteArrayOutputStream told = new ByteArrayOutputStream();
        PrintStream before = System.out;
        try (URLClassLoader loader = new URLClassLoader(new URL[] {out.toUri().toURL()}, null)) {
            System.setOut(new PrintStream(told, true, StandardCharsets.UTF_8));
            loader.loadClass("Example").getMethod("main", String[].class).invoke(null, (Object) new String[0]);
        } finally {
            System.setOut(before);
        }
        check.text("the example prints what README.md says", blocks("text").contains(told.toString(StandardCharsets.UTF_8)) ? "so" : told.toString(), "so");
        try (Stream<Path> made = Files.walk(out)) {
            made.sorted(java.util.Comparator.reverseOrder()).map(Path::toFile).forEach(java.io.File::delete);
        }
    }

    private void commandsNameFiles() {
        int files = 0;
        for (String block : blocks("sh")) {
            for (String word : block.split("\\s+")) {
                if (word.endsWith(".java") && !word.contains("*") || word.equals(".ci/run")) {
                    files++;
                    check.due("there is " + word, Files.exists(Path.of(word)) ? 1 : 0, 1);
                }
            }
        }
        check.due("commands name files: " + files, files > 2 ? 1 : 0, 1);
    }

    private void testsAreNamed() throws IOException {
        try (Stream<Path> files = Files.list(Path.of(TESTS))) {
            for (Path file : files.sorted().toList()) {
                String name = file.getFileName().toString().replace(".java", "");
                if (name.endsWith("Test")) {
                    check.due("README.md names " + name, readme.contains("`" + name + "`") ? 1 : 0, 1);
                }
            }
        }
    }
}
