import java.io.IOException;
import java.lang.reflect.Method;
import java.lang.reflect.Modifier;
import java.net.URL;
import java.net.URLClassLoader;
import java.nio.file.Files;
import java.nio.file.Path;
import javax.tools.ToolProvider;

/** README.md as it is: its example answers what it says, and every call and every test stands in it. */
public final class ReadmeTest {
    public static void main(String[] args) throws IOException, ReflectiveOperationException {
        String page = Files.readString(Path.of("README.md"));
        example(page);
        names(page);
        Check.end();
    }

    private static void example(String page) throws IOException, ReflectiveOperationException {
        int from = page.indexOf("```java\n") + 8;
        String lines = page.substring(from, page.indexOf("```", from));
        Path folder = Files.createTempDirectory("readme");
        Path source = folder.resolve("Example.java");
        Files.writeString(source, "public class Example {\n    public static int[] answers() {\n" + lines
                + "        return new int[] {looks, press, without};\n    }\n}\n");
        int failed = ToolProvider.getSystemJavaCompiler().run(null, null, null, "-cp",
                System.getProperty("java.class.path"), "-d", folder.toString(), source.toString());
        Check.due("the example compiles", failed, 0);
        if (failed == 0) {
            try (URLClassLoader loader = new URLClassLoader(new URL[] {folder.toUri().toURL()})) {
                int[] answers = (int[]) loader.loadClass("Example").getMethod("answers").invoke(null);
                int[] want = {1, 10, 0};
                for (int i = 0; i < want.length; i++) {
                    Check.due("answer " + i + " of the example", answers[i], want[i]);
                }
            }
        }
        Files.deleteIfExists(folder.resolve("Example.class"));
        Files.delete(source);
        Files.delete(folder);
    }

    private static void names(String page) throws IOException {
        for (Method method : PloughField.class.getDeclaredMethods()) {
            if (Modifier.isPublic(method.getModifiers())) {
                Check.due("it names " + method.getName(), page.contains("`" + method.getName() + "`"), true);
            }
        }
        try (var files = Files.list(Path.of("src/test/java"))) {
            for (Path file : (Iterable<Path>) files.sorted()::iterator) {
                String name = file.getFileName().toString().replace(".java", "");
                if (name.endsWith("Test")) {
                    Check.due("it names " + name, page.contains("`" + name + "`"), true);
                }
            }
        }
    }
}
