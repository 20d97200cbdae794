import java.io.ByteArrayOutputStream;
import java.io.IOException;
import java.io.PrintStream;
import java.net.URL;
import java.net.URLClassLoader;
import java.nio.charset.StandardCharsets;
import java.nio.file.Files;
import java.nio.file.Path;
import javax.tools.ToolProvider;

/** The example of README.md compiles, and prints what README.md says that it prints. */
public final class ReadmeTest {
    private static final Checks CHECKS = new Checks();

    public static void main(String[] args) throws Exception {
        String readme = Files.readString(Path.of("README.md"));
        String[] due = block(readme, "text").split("\n");
        String[] printed = run(block(readme, "java")).split("\n");
        CHECKS.due("lines that are printed", printed.length, due.length);
        for (int i = 0; i < Math.min(printed.length, due.length); i++) {
            CHECKS.due("'" + printed[i] + "' is '" + due[i] + "'", printed[i].equals(due[i]), true);
        }
        everyCallIsNamed(readme);
        CHECKS.end();
    }

    private static String block(String readme, String kind) {
        String opening = "```" + kind + "\n";
        int from = readme.indexOf(opening) + opening.length();
        return readme.substring(from, readme.indexOf("```", from));
    }

    private static String run(String program) throws IOException, ReflectiveOperationException {
        Path folder = Files.createTempDirectory("readme");
        Path source = folder.resolve("Example.java");
        Path compiled = folder.resolve("Example.class");
        PrintStream out = System.out;
        ByteArrayOutputStream printed = new ByteArrayOutputStream();
        try (URLClassLoader loader = new URLClassLoader(new URL[] {folder.toUri().toURL()})) {
            Files.writeString(source, program);
            String path = System.getProperty("java.class.path");
            int failed = ToolProvider.getSystemJavaCompiler().run(null, null, null, "-cp", path, "-d", folder.toString(), source.toString());
            CHECKS.due("the example compiles", failed, 0);
            System.setOut(new PrintStream(printed, true, StandardCharsets.UTF_8));
            loader.loadClass("Example").getMethod("main", String[].class).invoke(null, (Object) new String[0]);
        } finally {
            System.setOut(out);
            Files.deleteIfExists(compiled);
            Files.deleteIfExists(source);
            Files.deleteIfExists(folder);
        }
        return printed.toString(StandardCharsets.UTF_8).replace("\r\n", "\n");
    }

    private static void everyCallIsNamed(String readme) {
        for (var method : MincedCases.class.getDeclaredMethods()) {
            if (java.lang.reflect.Modifier.isPublic(method.getModifiers())) {
                CHECKS.due("README.md names " + method.getName(), readme.contains("`" + method.getName() + "`"), true);
            }
        }
    }
}
