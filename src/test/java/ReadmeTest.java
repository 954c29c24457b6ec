import java.io.ByteArrayOutputStream;
import java.io.IOException;
import java.io.PrintStream;
import java.lang.reflect.Method;
import java.lang.reflect.Modifier;
import java.net.URL;
import java.net.URLClassLoader;
import java.nio.file.DirectoryStream;
import java.nio.file.Files;
import java.nio.file.Path;
import javax.tools.ToolProvider;

/** README.md: its program is compiled and run and prints what is told there; every call and every test is named. */
public final class ReadmeTest {
    private static int wrong;

    private static void holds(String what, boolean is) {
        if (!is) {
            wrong++;
            System.out.println("not so: " + what);
        }
    }

    /** What stands between the fences of the first block of a sort. */
    private static String block(String readme, String sort) {
        String fence = "```" + sort + "\n";
        int from = readme.indexOf(fence);
        int to = from < 0 ? -1 : readme.indexOf("```", from + fence.length());
        holds("README.md has a block of " + sort, to >= 0);
        return to < 0 ? "" : readme.substring(from + fence.length(), to);
    }

    private static String printedBy(Path dir) throws IOException, ReflectiveOperationException {
        ByteArrayOutputStream printed = new ByteArrayOutputStream();
        PrintStream old = System.out;
        try (URLClassLoader loader = new URLClassLoader(new URL[] {dir.toUri().toURL()})) {
            System.setOut(new PrintStream(printed, true));
            loader.loadClass("Example").getMethod("main", String[].class).invoke(null, (Object) new String[0]);
        } finally {
            System.setOut(old);
        }
        return printed.toString().replace(System.lineSeparator(), "\n");
    }

    private static void program(String readme) throws IOException, ReflectiveOperationException {
        Path dir = Files.createTempDirectory("readme");
        Path source = dir.resolve("Example.java");
        Files.writeString(source, block(readme, "java"));
        int failed = ToolProvider.getSystemJavaCompiler().run(null, null, null, "-d", dir.toString(),
                "-cp", System.getProperty("java.class.path"), source.toString());
        holds("the program of README.md compiles", failed == 0);
        if (failed == 0) {
            String due = block(readme, "text");
            String printed = printedBy(dir);
            holds("README.md tells what its program prints:\n" + printed, printed.equals(due));
        }
        try (DirectoryStream<Path> all = Files.newDirectoryStream(dir)) {
            for (Path file : all) {
                Files.delete(file);
            }
        }
        Files.delete(dir);
    }

    private static void names(String readme) throws IOException {
        for (Method m : MayBoats.class.getDeclaredMethods()) {
            if (Modifier.isPublic(m.getModifiers())) {
                holds("README.md names the call " + m.getName(), readme.contains("`" + m.getName() + "`"));
            }
        }
        try (DirectoryStream<Path> all = Files.newDirectoryStream(Path.of("src/test/java"), "*Test.java")) {
            for (Path file : all) {
                String name = file.getFileName().toString().replace(".java", "");
                holds("README.md names " + name, readme.matches("(?s).*\\n\\|[^|\\n]*\\b" + name + "\\b[^|\\n]*\\|.*"));
            }
        }
    }

    public static void main(String[] args) throws IOException, ReflectiveOperationException {
        String readme = Files.readString(Path.of("README.md"));
        program(readme);
        names(readme);
        System.out.println(wrong == 0 ? "ReadmeTest: README.md holds" : "ReadmeTest: " + wrong + " are not so");
        System.exit(wrong == 0 ? 0 : 1);
    }
}
