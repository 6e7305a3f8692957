import java.io.ByteArrayOutputStream;
import java.io.PrintStream;
import java.net.URI;
import java.net.URL;
import java.net.URLClassLoader;
import java.nio.file.Files;
import java.nio.file.Path;
import java.util.ArrayList;
import java.util.List;
import java.util.regex.Matcher;
import java.util.regex.Pattern;
import javax.tools.ToolProvider;

/** The program in README.md compiles as it stands there and prints what its comments say. */
public final class ReadmeTest {
    private static final Pattern PROGRAM = Pattern.compile("```java\n(.*?)```", Pattern.DOTALL);
    private static final Pattern PRINTED = Pattern.compile("println.*// prints (-?\\d+)");

    public static void main(String[] args) throws Exception {
        Matcher program = PROGRAM.matcher(Files.readString(Path.of("README.md")));
        Checks.holds("README.md has a program", program.find());
        String source = program.group(1);
        List<String> due = new ArrayList<>();
        for (String line : source.split("\n")) {
            Matcher printed = PRINTED.matcher(line);
            if (printed.find()) {
                due.add(printed.group(1));
            }
        }
        Checks.due("lines with println", source.split("println", -1).length - 1, due.size());
        Checks.same("the program of README.md prints", run(source), String.join(" ", due));
        Checks.finish();
    }

    private static String run(String source) throws Exception {
        Path directory = Files.createTempDirectory("readme");
        Path file = directory.resolve("Example.java");
        Files.writeString(file, source);
        int code = ToolProvider.getSystemJavaCompiler().run(null, null, null, "--release", "17",
            "-cp", System.getProperty("java.class.path"), "-d", directory.toString(), file.toString());
        String printed = code == 0 ? printedBy(directory.toUri()) : "nothing, for it doesn't compile";
        Files.deleteIfExists(directory.resolve("Example.class"));
        Files.delete(file);
        Files.delete(directory);
        return printed;
    }

    private static String printedBy(URI directory) throws Exception {
        PrintStream console = System.out;
        ByteArrayOutputStream bytes = new ByteArrayOutputStream();
        try (URLClassLoader loader = new URLClassLoader(new URL[] {directory.toURL()})) {
            System.setOut(new PrintStream(bytes, true));
            loader.loadClass("Example").getMethod("main", String[].class).invoke(null, (Object) new String[0]);
        } finally {
            System.setOut(console);
        }
        return bytes.toString().trim().replaceAll("\\s+", " ");
    }
}
