import java.io.ByteArrayOutputStream;
import java.io.IOException;
import java.io.PrintStream;
import java.net.URL;
import java.net.URLClassLoader;
import java.nio.file.Files;
import java.nio.file.Path;
import java.util.ArrayList;
import java.util.List;
import java.util.regex.Matcher;
import java.util.regex.Pattern;
import java.util.stream.Stream;
import javax.tools.ToolProvider;

/** The examples of README.md are compiled and run: they print what stands behind "//" in their lines. */
public final class ReadmeTest {
    private static final Checks CHECKS = new Checks("ReadmeTest");
    private static final Path README = Path.of("README.md");
    private static final Path TESTS = Path.of("src/test/java");
    private static final Pattern BLOCK = Pattern.compile("(?s)```java\n(.*?)```");
    private static final Pattern PRINTED = Pattern.compile("(?m)^System\\.out\\.println\\(.*\\); +// ([^:\n]*)(:.*)?$");

    public static void main(String[] args) throws IOException, ReflectiveOperationException {
        String readme = Files.readString(README);
        Matcher block = BLOCK.matcher(readme);
        int blocks = 0;
        while (block.find()) {
            blocks++;
            example(block.group(1));
        }
        CHECKS.same("examples", blocks, 2);
        namesOfTests(readme);
        CHECKS.end();
    }

    private static void example(String code) throws IOException, ReflectiveOperationException {
        List<String> due = new ArrayList<>();
        List<String> lines = new ArrayList<>();
        Matcher line = PRINTED.matcher(code);
        while (line.find()) {
            lines.add(line.group());
            due.add(line.group(1).stripTrailing());
        }
        CHECKS.same("lines that tell what they print", lines.size(), code.split("println\\(", -1).length - 1);
        String[] printed = run(code).split("\\R");
        CHECKS.same("lines that were printed", printed.length, lines.size());
        for (int i = 0; i < Math.min(printed.length, lines.size()); i++) {
            CHECKS.yes(lines.get(i) + " printed " + printed[i], printed[i].equals(due.get(i)));
        }
    }

    /** Compiles the lines as a main method beside the classes of the tests, and gives what it prints. */
    private static String run(String code) throws IOException, ReflectiveOperationException {
        Path room = Files.createTempDirectory("readme");
        Path source = room.resolve("Example.java");
        Files.writeString(source, "public final class Example {\npublic static void main(String[] args) {\n"
                + code + "}\n}\n");
        int ended = ToolProvider.getSystemJavaCompiler().run(null, null, null, "-proc:none",
                "-cp", System.getProperty("java.class.path"), "-d", room.toString(), source.toString());
        CHECKS.same("the compiler", ended, 0);
        PrintStream out = System.out;
        ByteArrayOutputStream printed = new ByteArrayOutputStream();
        try (URLClassLoader loader = new URLClassLoader(new URL[] {room.toUri().toURL()})) {
            System.setOut(new PrintStream(printed, true));
            Object none = new String[0];
            loader.loadClass("Example").getMethod("main", String[].class).invoke(null, none);
        } finally {
            System.setOut(out);
            remove(room);
        }
        return printed.toString();
    }

    private static void remove(Path room) throws IOException {
        try (Stream<Path> files = Files.list(room)) {
            for (Path file : files.toList()) {
                Files.delete(file);
            }
        }
        Files.delete(room);
    }

    private static void namesOfTests(String readme) throws IOException {
        try (Stream<Path> files = Files.list(TESTS)) {
            for (Path file : files.toList()) {
                String name = file.getFileName().toString().replace(".java", "");
                CHECKS.yes("README.md tells of " + name, readme.matches("(?s).*\\b" + name + "\\b.*"));
            }
        }
    }
}
