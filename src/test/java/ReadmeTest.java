import java.io.ByteArrayOutputStream;
import java.io.IOException;
import java.io.PrintStream;
import java.net.URL;
import java.net.URLClassLoader;
import java.nio.charset.StandardCharsets;
import java.nio.file.Files;
import java.nio.file.Path;
import java.util.List;
import javax.tools.ToolProvider;

/** The example in README.md can be used as it stands there, and prints what README.md tells. */
public final class ReadmeTest {
    public static void main(String[] args) throws IOException, ReflectiveOperationException {
        String readme = Files.readString(Path.of("README.md"));
        Path folder = Files.createTempDirectory("readme");
        Path source = folder.resolve("Example.java");
        Files.writeString(source, block(readme, "java"));
        Check.due("the compiler's exit code for README's example", 0, () -> compile(source, folder));
        List<String> printed = Check.wrong() == 0 ? printedBy(folder) : List.of();
        List<String> told = block(readme, "text").lines().toList();
        Check.due("lines that the example prints", told.size(), printed::size);
        for (int i = 0; i < Math.min(told.size(), printed.size()); i++) {
            String line = printed.get(i);
            Check.due("line " + i + " that the example prints", told.get(i), () -> line);
        }
        remove(folder);
        Check.end();
    }

    /** What stands in the first block of this kind. */
    private static String block(String readme, String kind) {
        String begin = "```" + kind + "\n";
        int from = readme.indexOf(begin) + begin.length();
        return readme.substring(from, readme.indexOf("```", from));
    }

    private static int compile(Path source, Path folder) {
        return ToolProvider.getSystemJavaCompiler().run(null, null, null, "-cp",
                System.getProperty("java.class.path"), "-d", folder.toString(), source.toString());
    }

    private static List<String> printedBy(Path folder) throws IOException, ReflectiveOperationException {
        PrintStream screen = System.out;
        ByteArrayOutputStream bytes = new ByteArrayOutputStream();
        System.setOut(new PrintStream(bytes, true, StandardCharsets.UTF_8));
        try (URLClassLoader loader = new URLClassLoader(new URL[] {folder.toUri().toURL()})) {
            loader.loadClass("Example").getMethod("main", String[].class).invoke(null, (Object) new String[0]);
        } finally {
            System.setOut(screen);
        }
        return bytes.toString(StandardCharsets.UTF_8).lines().toList();
    }

    private static void remove(Path folder) throws IOException {
        try (var files = Files.list(folder)) {
            for (Path file : files.toList()) {
                Files.delete(file);
            }
        }
        Files.delete(folder);
    }
}
