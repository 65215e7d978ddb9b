import java.io.IOException;
import java.lang.reflect.Method;
import java.lang.reflect.Modifier;
import java.nio.file.DirectoryStream;
import java.nio.file.Files;
import java.nio.file.Path;
import java.util.ArrayList;
import java.util.List;
import java.util.regex.Matcher;
import java.util.regex.Pattern;
import javax.tools.ToolProvider;

/**
 * README.md: its example compiles and its calls answer or throw what stands behind them; it names
 * all calls and all tests.
 */
public final class ReadmeTest {
    private static final Check CHECK = new Check();
    private static final Pattern TOLD =
            Pattern.compile("(heap\\..*\\)); *// (?:(\\d+)|(\\w+Exception)): .*");

    public static void main(String[] args) throws Exception {
        String readme = Files.readString(Path.of("README.md"));
        example(readme);
        namesAllCalls(readme);
        namesAllTests(readme);
        CHECK.end("ReadmeTest");
    }

    private static void example(String readme) throws Exception {
        // Beside the other classes, so that the example finds them and is found itself.
        Path classes = Path.of(System.getProperty("java.class.path"));
        Path source = classes.resolve("ReadmeExample.java");
        Files.write(source, program(linesOfExample(readme)));
        int status = ToolProvider.getSystemJavaCompiler().run(null, null, null,
                "-cp", classes.toString(), "-d", classes.toString(), source.toString());
        CHECK.due("compiling the example", status, 0);
        if (status == 0) {
            Method run = Class.forName("ReadmeExample").getDeclaredMethod("run", Check.class);
            run.invoke(null, CHECK);
        }
    }

    private static List<String> linesOfExample(String readme) {
        String start = "```java\n";
        int from = readme.indexOf(start) + start.length();
        return readme.substring(from, readme.indexOf("```", from)).lines().toList();
    }

    private static List<String> program(List<String> example) {
        List<String> lines = new ArrayList<>();
        lines.add("final class ReadmeExample { static void run(Check check) {");
        for (String line : example) {
            lines.add(checked(line));
        }
        lines.add("} }");
        return lines;
    }

    private static String checked(String line) {
        Matcher told = TOLD.matcher(line);
        if (!told.matches()) {
            return line;
        }
        String call = told.group(1);
        return told.group(2) != null
                ? "check.due(\"" + call + "\", " + call + ", " + told.group(2) + ");"
                : "check.throwsIt(\"" + told.group(3) + "\", \"" + call + "\", () -> " + call + ");";
    }

    private static void namesAllCalls(String readme) {
        for (Method m : MovingHeap.class.getDeclaredMethods()) {
            if (Modifier.isPublic(m.getModifiers())) {
                names(readme, "| `" + m.getName() + "(");
            }
        }
    }

    private static void namesAllTests(String readme) throws IOException {
        Path tests = Path.of("src/test/java");
        try (DirectoryStream<Path> files = Files.newDirectoryStream(tests, "*Test.java")) {
            for (Path file : files) {
                names(readme, "| " + file.getFileName().toString().replace(".java", "") + " |");
            }
        }
    }

    private static void names(String readme, String row) {
        CHECK.due("rows of README.md that begin with " + row, readme.contains(row) ? 1 : 0, 1);
    }
}
