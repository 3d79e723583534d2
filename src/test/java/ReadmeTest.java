import java.io.ByteArrayOutputStream;
import java.io.IOException;
import java.io.PrintStream;
import java.lang.reflect.Method;
import java.lang.reflect.Modifier;
import java.net.URL;
import java.net.URLClassLoader;
import java.nio.charset.StandardCharsets;
import java.nio.file.Files;
import java.nio.file.Path;
import java.util.Comparator;
import java.util.List;
import javax.tools.ToolProvider;

/** README.md's example compiles and prints what is told there, and each call of the face is named there. */
public final class ReadmeTest {
    public static void main(String[] args) throws Exception {
        String readme = Files.readString(Path.of("README.md"));
        Path directory = Files.createTempDirectory("readme");
        try {
            dueExample(block(readme, "java"), block(readme, "text"), directory);
        } finally {
            delete(directory);
        }
        for (Method call : OldFences.class.getDeclaredMethods()) {
            if (Modifier.isPublic(call.getModifiers())) {
                boolean isNamed = readme.matches("(?s).*`" + call.getName() + "[`(].*");
                Kit.due("README.md names " + call.getName(), isNamed, true);
            }
        }
        Kit.due("README.md tells how to run the tests", readme.contains("bash .ci/run"), true);
        Kit.close("ReadmeTest");
    }

    /** What stands in the only block of a kind. */
    private static String block(String readme, String kind) {
        String opens = "```" + kind + "\n";
        int from = readme.indexOf(opens);
        int to = from < 0 ? -1 : readme.indexOf("```", from + opens.length());
        Kit.due("README.md has one block of " + kind, to >= 0 && readme.lastIndexOf(opens) == from, true);
        return to < 0 ? "" : readme.substring(from + opens.length(), to);
    }

    private static void dueExample(String program, String prints, Path directory) throws Exception {
        Path file = Files.writeString(directory.resolve("Example.java"), program);
        ByteArrayOutputStream said = new ByteArrayOutputStream();
        int failed = ToolProvider.getSystemJavaCompiler().run(null, said, said, "-Xlint:all", "-Werror",
                "-cp", System.getProperty("java.class.path"), "-d", directory.toString(), file.toString());
        if (failed != 0) {
            Kit.fail("README.md's example does not compile: " + said);
            return;
        }
        String printed = run(directory);
        if (!printed.equals(prints)) {
            Kit.fail("README.md's example prints\n" + printed + "told there is\n" + prints);
        }
    }

    private static String run(Path directory) throws Exception {
        PrintStream was = System.out;
        ByteArrayOutputStream printed = new ByteArrayOutputStream();
        try (URLClassLoader loader = new URLClassLoader(new URL[] {directory.toUri().toURL()})) {
            Method main = loader.loadClass("Example").getMethod("main", String[].class);
            System.setOut(new PrintStream(printed, true, StandardCharsets.UTF_8));
            main.invoke(null, (Object) new String[0]);
        } finally {
            System.setOut(was);
        }
        return printed.toString(StandardCharsets.UTF_8).replace(System.lineSeparator(), "\n");
    }

    private static void delete(Path directory) throws IOException {
        List<Path> all;
        try (var walk = Files.walk(directory)) {
            all = walk.sorted(Comparator.reverseOrder()).toList();
        }
        for (Path path : all) {
            Files.delete(path);
        }
    }
}
