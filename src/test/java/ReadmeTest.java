import java.io.ByteArrayOutputStream;
import java.io.IOException;
import java.io.PrintStream;
import java.lang.reflect.Method;
import java.lang.reflect.Modifier;
import java.net.URL;
import java.net.URLClassLoader;
import java.nio.charset.StandardCharsets;
import java.nio.file.Files;
import java.nio.file.Path;
import javax.tools.JavaCompiler;
import javax.tools.ToolProvider;

/** README.md: its example prints what it says, and it names all that the class has. */
public final class ReadmeTest {
    public static void main(String[] args) throws IOException, ReflectiveOperationException {
        String readme = Files.readString(Path.of("README.md"));
        Check.sameText("the example prints", printedBy(block(readme, "java")), block(readme, "text"));
        for (Method method : MultiwayCut.class.getDeclaredMethods()) {
            if (Modifier.isPublic(method.getModifiers())) {
                Check.is("README.md names " + method.getName(), readme.contains("`" + method.getName() + "`"));
            }
        }
        for (String line : new String[] {
            "| -2 | `SYNTAX_ERROR` |", "| -3 | `OUT_OF_RANGE` |", "| -4 | `DUPLICATE` |", "| -5 | `TOO_MANY` |", "| -6 | `TOO_DEEP` |"}) {
            Check.is("README.md has " + line, readme.contains(line));
        }
        Check.end();
    }

    /** What stands between the fences of the first block of this kind. */
    private static String block(String text, String kind) {
        String fence = "```" + kind + "\n";
        int start = text.indexOf(fence) + fence.length();
        return text.substring(start, text.indexOf("```", start));
    }

    private static String printedBy(String program) throws IOException, ReflectiveOperationException {
        Path place = Files.createTempDirectory("readme");
        Path source = place.resolve("Example.java");
        Path compiled = place.resolve("Example.class");
        Files.writeString(source, program);
        JavaCompiler compiler = ToolProvider.getSystemJavaCompiler();
        int failed = compiler.run(null, null, null, "-Xlint:all", "-Werror",
            "-cp", System.getProperty("java.class.path"), "-d", place.toString(), source.toString());
        Check.sameLong("the example compiles", failed, 0);
        String printed = failed == 0 ? run(place) : "";
        Files.deleteIfExists(compiled);
        Files.delete(source);
        Files.delete(place);
        return printed;
    }

    private static String run(Path place) throws IOException, ReflectiveOperationException {
        PrintStream screen = System.out;
        ByteArrayOutputStream printed = new ByteArrayOutputStream();
        try (URLClassLoader loader = new URLClassLoader(new URL[] {place.toUri().toURL()}, ReadmeTest.class.getClassLoader())) {
            System.setOut(new PrintStream(printed, true, StandardCharsets.UTF_8));
            loader.loadClass("Example").getMethod("main", String[].class).invoke(null, (Object) new String[0]);
        } finally {
            System.setOut(screen);
        }
        return printed.toString(StandardCharsets.UTF_8).replace("\r\n", "\n");
    }
}
