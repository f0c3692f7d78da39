import java.io.ByteArrayOutputStream;
import java.io.IOException;
import java.io.PrintStream;
import java.net.URL;
import java.net.URLClassLoader;
import java.nio.file.Files;
import java.nio.file.Path;
import javax.tools.ToolProvider;

/** The example of README.md compiles, and prints what README.md says; it is run where README.md is. */
public final class ReadmeTest {
    public static void main(String[] args) throws Exception {
        String readme = Files.readString(Path.of("README.md"));
        Path directory = Files.createTempDirectory("readme");
        Path source = directory.resolve("Example.java");
        Path compiled = directory.resolve("Example.class");
        Files.writeString(source, block(readme, "java"));
        int failed = ToolProvider.getSystemJavaCompiler().run(null, null, null, "-cp",
                System.getProperty("java.class.path"), "-d", directory.toString(), source.toString());
        Check.equal("compiling the example", failed, 0);
        String printed = failed == 0 ? printedBy(directory) : "";
        Files.deleteIfExists(compiled);
        Files.delete(source);
        Files.delete(directory);
        Check.isTrue("the example prints " + printed, printed.equals(block(readme, "text")));
        Check.finish();
    }

    /** The lines of the first block of that language. */
    private static String block(String readme, String language) {
        int from = readme.indexOf("```" + language + "\n") + language.length() + 4;
        return readme.substring(from, readme.indexOf("```", from));
    }

    private static String printedBy(Path directory) throws IOException, ReflectiveOperationException {
        PrintStream before = System.out;
        ByteArrayOutputStream printed = new ByteArrayOutputStream();
        try (URLClassLoader loader = new URLClassLoader(new URL[] {directory.toUri().toURL()})) {
            System.setOut(new PrintStream(printed, true));
            loader.loadClass("Example").getMethod("main", String[].class)
                    .invoke(null, (Object) new String[0]);
        } finally {
            System.setOut(before);
        }
        return printed.toString().replace(System.lineSeparator(), "\n");
    }
}
