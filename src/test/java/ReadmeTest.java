import java.io.ByteArrayOutputStream;
import java.io.IOException;
import java.io.PrintStream;
import java.lang.reflect.Field;
import java.lang.reflect.Method;
import java.lang.reflect.Modifier;
import java.net.URL;
import java.net.URLClassLoader;
import java.nio.file.Files;
import java.nio.file.Path;
import java.util.List;
import java.util.stream.Stream;
import javax.tools.ToolProvider;

/** That README.md says how to use the class and how to run its tests, and says it rightly. */
public final class ReadmeTest {
    private static final Path TESTS = Path.of("src/test/java");
    private static final Check CHECK = new Check();

    public static void main(String[] args) throws IOException, ReflectiveOperationException {
        String readme = Files.readString(Path.of("README.md")).replace("\r\n", "\n");
        example(readme);
        face(readme);
        tests(readme);
        CHECK.end();
    }

    private static void example(String readme) throws IOException, ReflectiveOperationException {
        String printed = run(block(readme, "java"));
        String told = block(readme, "text");
        CHECK.due("the example prints\n" + printed + "and README.md tells\n" + told
            + "which is the same", printed.equals(told), true);
    }

    /** The first block of README.md in this language. */
    private static String block(String readme, String language) {
        String mark = "\n```" + language + "\n";
        int start = readme.indexOf(mark) + mark.length();
        int end = readme.indexOf("```", start);
        boolean found = readme.contains(mark) && end >= 0;
        CHECK.due("a block of " + language, found, true);
        return found ? readme.substring(start, end) : "";
    }

    private static String run(String source) throws IOException, ReflectiveOperationException {
        Path folder = Files.createTempDirectory("readme");
        Path file = Files.writeString(folder.resolve("Example.java"), source);
        int compiled = ToolProvider.getSystemJavaCompiler().run(null, null, null,
            "-cp", System.getProperty("java.class.path"), "-d", folder.toString(), file.toString());
        CHECK.due("javac of the example", compiled, 0);
        String printed = compiled == 0 ? printedBy(folder) : "";
        try (Stream<Path> made = Files.list(folder)) {
            for (Path some : made.toList()) {
                Files.delete(some);
            }
        }
        Files.delete(folder);
        return printed;
    }

    private static String printedBy(Path folder) throws IOException, ReflectiveOperationException {
        ByteArrayOutputStream bytes = new ByteArrayOutputStream();
        PrintStream before = System.out;
        System.setOut(new PrintStream(bytes, true));
        try (URLClassLoader loader = new URLClassLoader(new URL[] {folder.toUri().toURL()})) {
            Method main = loader.loadClass("Example").getMethod("main", String[].class);
            main.invoke(null, (Object) new String[0]);
        } finally {
            System.setOut(before);
        }
        return bytes.toString().replace("\r\n", "\n");
    }

    private static void face(String readme) {
        for (Method method : SegmentMachine.class.getDeclaredMethods()) {
            if (Modifier.isPublic(method.getModifiers())) {
                named(readme, "`" + method.getName() + "(");
            }
        }
        for (Field field : SegmentMachine.class.getDeclaredFields()) {
            if (Modifier.isPublic(field.getModifiers())) {
                named(readme, "`" + field.getName() + "`");
            }
        }
    }

    private static void tests(String readme) throws IOException {
        named(readme, ".ci/run");
        try (Stream<Path> files = Files.list(TESTS)) {
            List<Path> all = files.toList();
            for (Path test : all) {
                named(readme, "`" + test.getFileName().toString().replace(".java", "") + "`");
            }
        }
    }

    private static void named(String readme, String what) {
        CHECK.due("README.md names " + what, readme.contains(what), true);
    }
}
