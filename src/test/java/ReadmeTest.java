import java.io.IOException;
import java.lang.reflect.InvocationTargetException;
import java.lang.reflect.Method;
import java.lang.reflect.Modifier;
import java.net.URL;
import java.net.URLClassLoader;
import java.nio.file.DirectoryStream;
import java.nio.file.Files;
import java.nio.file.Path;
import java.util.ArrayList;
import java.util.List;
import java.util.function.Supplier;
import java.util.regex.Matcher;
import java.util.regex.Pattern;
import javax.tools.ToolProvider;

/** README.md says what is so: its example is run, and nothing that it should name is missing. */
public final class ReadmeTest {
    private static final Check CHECK = new Check("ReadmeTest");
    private static final Path README = Path.of("README.md");
    private static final Path TESTS = Path.of("src/test/java");
    private static final Pattern CALL = Pattern.compile("(table\\.\\w+\\(.*\\)); *(// (.*))?");
    private static final Pattern ANSWER = Pattern.compile("(-?\\d+|true|false|throws \\w+): .+");

    public static void main(String[] args) throws IOException, ReflectiveOperationException {
        List<String> example = exampleLines();
        runExample(example);
        everyCallIsShown(String.join("\n", example));
        everyTestIsNamed();
        CHECK.finish();
    }

    /** For the example's class, which a loader of its own keeps apart from this package. */
    public static void due(String call, Supplier<String> made, String want) {
        String got;
        try {
            got = made.get();
        } catch (RuntimeException e) {
            got = "throws " + e.getClass().getSimpleName();
        }
        CHECK.same(call, got, want);
    }

    private static List<String> exampleLines() throws IOException {
        List<String> lines = new ArrayList<>();
        boolean inside = false;
        for (String line : Files.readAllLines(README)) {
            if (line.startsWith("```")) {
                inside = line.equals("```java");
            } else if (inside) {
                lines.add(line);
            }
        }
        return lines;
    }

    private static void runExample(List<String> example)
            throws IOException, ReflectiveOperationException {
        Path directory = Files.createTempDirectory("readme");
        Path source = directory.resolve("Example.java");
        try {
            Files.writeString(source, classOf(example));
            int failed = ToolProvider.getSystemJavaCompiler().run(null, null, null, "-d",
                directory.toString(), "-cp", System.getProperty("java.class.path"),
                source.toString());
            CHECK.due("compiling the example", failed, 0);
            if (failed == 0) {
                runClass(directory);
            }
        } finally {
            deleteAll(directory);
        }
    }

    private static void runClass(Path directory) throws IOException, ReflectiveOperationException {
        URL[] places = {directory.toUri().toURL()};
        try (URLClassLoader loader = new URLClassLoader(places)) {
            loader.loadClass("Example").getMethod("run").invoke(null);
        } catch (InvocationTargetException e) {
            CHECK.same("the example", e.getCause().toString(), "runs to its end");
        }
    }

    private static String classOf(List<String> example) {
        StringBuilder text = new StringBuilder("public final class Example {\n");
        text.append("public static void run() {\n");
        for (String line : example) {
            text.append(statement(line)).append('\n');
        }
        return text.append("}\n}\n").toString();
    }

    private static String statement(String line) {
        Matcher call = CALL.matcher(line);
        if (!call.matches() || call.group(1).startsWith("table.shuffle(")) {
            return line;
        }
        String comment = call.group(3) == null ? "" : call.group(3);
        Matcher answer = ANSWER.matcher(comment);
        CHECK.due(line + " tells its answer", answer.matches(), true);
        String want = answer.matches() ? answer.group(1) : "";
        return "ReadmeTest.due(\"" + call.group(1) + "\", () -> String.valueOf(" + call.group(1)
            + "), \"" + want + "\");";
    }

    private static void everyCallIsShown(String example) {
        for (Method method : HandTables.class.getDeclaredMethods()) {
            if (Modifier.isPublic(method.getModifiers())) {
                CHECK.due(method.getName() + " is in the example",
                    example.contains("table." + method.getName() + "("), true);
            }
        }
    }

    private static void everyTestIsNamed() throws IOException {
        String page = Files.readString(README);
        try (DirectoryStream<Path> files = Files.newDirectoryStream(TESTS, "*.java")) {
            for (Path file : files) {
                String name = file.getFileName().toString().replace(".java", "");
                CHECK.due(name + " is named", page.contains("`" + name + "`"), true);
            }
        }
        Matcher row = Pattern.compile("(?m)^\\| `(\\w+)` \\|").matcher(page);
        while (row.find()) {
            CHECK.due(row.group(1) + " is a test",
                Files.exists(TESTS.resolve(row.group(1) + ".java")), true);
        }
    }

    private static void deleteAll(Path directory) throws IOException {
        try (DirectoryStream<Path> files = Files.newDirectoryStream(directory)) {
            for (Path file : files) {
                Files.delete(file);
            }
        }
        Files.delete(directory);
    }
}
