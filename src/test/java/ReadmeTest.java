import java.io.ByteArrayOutputStream;
import java.io.IOException;
import java.io.PrintStream;
import java.lang.reflect.Method;
import java.lang.reflect.Modifier;
import java.net.URI;
import java.net.URL;
import java.net.URLClassLoader;
import java.nio.file.Files;
import java.nio.file.Path;
import java.util.Comparator;
import java.util.List;
import java.util.regex.Matcher;
import java.util.regex.Pattern;
import java.util.stream.Stream;
import javax.tools.JavaCompiler;
import javax.tools.ToolProvider;

/** What README.md says of the class: its example is run, and each call and each test is named. */
public final class ReadmeTest {
    private static final Checks CHECKS = new Checks();
    private static final Path TESTS = Path.of("src/test/java");

    public static void main(String[] args) throws Exception {
        String readme = Files.readString(Path.of("README.md"));
        exampleAnswersAsWritten(blockOf(readme, "java"), blockOf(readme, "text"));
        everyCallIsNamed(readme);
        everyTestIsNamed(readme);
        CHECKS.end("ReadmeTest");
    }

    /** The first block of code of a kind, without its fences. */
    private static String blockOf(String readme, String kind) {
        Matcher block = Pattern.compile("(?s)```" + kind + "\n(.*?)```").matcher(readme);
        boolean found = block.find();
        CHECKS.due("there is a block of " + kind, found, true);
        return found ? block.group(1) : "";
    }

    private static void exampleAnswersAsWritten(String example, String printed) throws Exception {
        Path directory = Files.createTempDirectory("readme");
        try {
            Path file = directory.resolve("Example.java");
            Files.writeString(file, example);
            JavaCompiler compiler = ToolProvider.getSystemJavaCompiler();
            int compiled = compiler.run(null, null, null, "--release", "17", "-cp",
                    System.getProperty("java.class.path"), "-d", directory.toString(), file.toString());
            CHECKS.due("the example is compiled, with", compiled, 0);
            if (compiled == 0) {
                CHECKS.due("the example", outputOf(directory.toUri()), printed);
            }
        } finally {
            remove(directory);
        }
    }

    private static String outputOf(URI directory) throws Exception {
        PrintStream before = System.out;
        ByteArrayOutputStream bytes = new ByteArrayOutputStream();
        try (URLClassLoader loader = new URLClassLoader(new URL[] {directory.toURL()})) {
            Method main = loader.loadClass("Example").getMethod("main", String[].class);
            System.setOut(new PrintStream(bytes, true));
            main.invoke(null, (Object) new String[0]);
        } finally {
            System.setOut(before);
        }
        return bytes.toString().replace(System.lineSeparator(), "\n");
    }

    private static void remove(Path directory) throws IOException {
        List<Path> all;
        try (Stream<Path> walk = Files.walk(directory)) {
            all = walk.sorted(Comparator.reverseOrder()).toList();
        }
        for (Path path : all) {
            Files.delete(path);
        }
    }

    private static void everyCallIsNamed(String readme) {
        for (Method m : ThinStrokes.class.getDeclaredMethods()) {
            if (Modifier.isPublic(m.getModifiers())) {
                CHECKS.due("a row of the table tells " + m.getName(),
                        Pattern.compile("(?m)^\\| .*`" + m.getName() + "\\(").matcher(readme).find(), true);
            }
        }
        CHECKS.due("a row of the table tells the constructor",
                readme.contains("| `new ThinStrokes(width, height)` |"), true);
    }

    private static void everyTestIsNamed(String readme) throws IOException {
        List<String> names;
        try (Stream<Path> files = Files.list(TESTS)) {
            names = files.map(file -> file.getFileName().toString()).sorted().toList();
        }
        for (String name : names) {
            if (name.endsWith("Test.java")) {
                String test = name.substring(0, name.length() - ".java".length());
                CHECKS.due("README tells of " + test, readme.contains("`" + test + "`"), true);
            }
        }
        CHECKS.due("README tells how to run the tests", readme.contains(".ci/run"), true);
    }
}
