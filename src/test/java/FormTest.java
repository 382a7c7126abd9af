import java.io.IOException;
import java.lang.reflect.Executable;
import java.lang.reflect.Field;
import java.lang.reflect.Method;
import java.lang.reflect.Modifier;
import java.nio.charset.StandardCharsets;
import java.nio.file.Files;
import java.nio.file.Path;
import java.util.ArrayList;
import java.util.Arrays;
import java.util.List;
import java.util.Set;
import java.util.TreeSet;

/** The public face of the document, and those rules of LANGUAGE.md that a program can look at. */
public final class FormTest {
    private static final Checks CHECKS = new Checks("FormTest");
    private static final Path SOURCE = Path.of("src/main/java/BridgeClub.java");
    private static final Path DOCUMENT = Path.of("../shared/DOC.md");
    private static final String[] FACE = {
        "int deal(int)", "boolean swap(int,int,int)", "int hand(int,int)", "int board(int,int)",
        "boolean begin(int,int,int,int)", "int call(int,int)", "int play(int,int)", "boolean claim(int,int)",
        "boolean back(int)", "boolean leave(int)", "int table(int,int)", "int called(int,int)",
        "int played(int,int)", "boolean allowed(int,int)", "boolean sees(int,int,int)",
        "boolean lacks(int,int,int)", "int best(int)", "int bestCard(int)", "int result(int,int)",
        "boolean adjust(int,int,int)", "int score(int,int,int,boolean,int)", "int steps(int,int)",
        "int points(int,int)", "int total(int)", "int top(int)", "int place(int)", "int plan(int,int,int,int)",
        "int write(int)", "int out(int)", "int count(int)",
    };
    private static final String[] FORBIDDEN = {
        "throw", "throws", "try", "catch", "finally", "synchronized", "assert", "import", "package",
        "Object", "double", "float",
    };

    public static void main(String[] args) throws IOException {
        face();
        classes();
        String source = Files.readString(SOURCE, StandardCharsets.ISO_8859_1);
        faceOfTheDocument(Files.readString(DOCUMENT), source);
        words(source);
        methodLengths(source);
        CHECKS.end();
    }

    private static void face() {
        Set<String> due = new TreeSet<>(Arrays.asList(FACE));
        Set<String> names = new TreeSet<>();
        Set<String> found = new TreeSet<>();
        for (Method m : BridgeClub.class.getDeclaredMethods()) {
            if (Modifier.isPublic(m.getModifiers())) {
                found.add(m.getReturnType() + " " + m.getName() + "(" + parameters(m) + ")");
                names.add(m.getName());
            } else {
                CHECKS.yes(m + " is private", Modifier.isPrivate(m.getModifiers()));
            }
        }
        CHECKS.yes("the public methods " + found, found.equals(due));
        for (Class<?> c : allClasses()) {
            for (Method m : c.getDeclaredMethods()) {
                boolean isFace = c == BridgeClub.class && Modifier.isPublic(m.getModifiers());
                CHECKS.yes(m + " bears a name of its own", isFace || !names.contains(m.getName()));
            }
        }
        int open = Modifier.PUBLIC | Modifier.FINAL;
        CHECKS.same("the class is public and final", BridgeClub.class.getModifiers() & open, open);
        CHECKS.same("constructors", BridgeClub.class.getDeclaredConstructors().length, 1);
        CHECKS.same("public constructors", BridgeClub.class.getConstructors().length, 1);
        CHECKS.same("public fields", BridgeClub.class.getFields().length, 1);
    }

    /** Line by line, with the names of the parameters; and no promise is of a method that the face has not. */
    private static void faceOfTheDocument(String document, String source) {
        String face = document.substring(document.indexOf("```java"), document.indexOf("## Terms"));
        int lines = 0;
        for (String line : face.split("\n")) {
            if (line.trim().startsWith("public ")) {
                lines++;
                String due = line.trim().endsWith(");") ? line.replace(");", ") {") : line;
                CHECKS.yes("the face has " + line.trim(), source.contains("\n" + due + "\n"));
            }
        }
        CHECKS.same("lines of the face", lines, 3 + FACE.length);
        int promises = 0;
        for (String part : document.split("(?m)^## Promise ")) {
            if (part.matches("(?s)\\d+: .*")) {
                promises++;
                String head = part.substring(part.indexOf('`') + 1, part.indexOf('`', part.indexOf('`') + 1));
                CHECKS.yes("the face has " + head, face.contains("    public " + head + ";"));
            }
        }
        CHECKS.same("promises", promises, 1 + FACE.length);
    }

    private static String parameters(Method m) {
        List<String> types = new ArrayList<>();
        for (Class<?> c : m.getParameterTypes()) {
            types.add(c.getName());
        }
        return String.join(",", types);
    }

    private static List<Class<?>> allClasses() {
        List<Class<?>> all = new ArrayList<>();
        all.add(BridgeClub.class);
        all.addAll(Arrays.asList(BridgeClub.class.getDeclaredClasses()));
        return all;
    }

    private static void classes() {
        CHECKS.yes("at most twelve classes", allClasses().size() <= 12);
        for (Class<?> c : allClasses()) {
            if (c != BridgeClub.class) {
                CHECKS.yes(c + " is static", Modifier.isStatic(c.getModifiers()));
                CHECKS.same(c + " has no classes inside", c.getDeclaredClasses().length, 0);
            }
            int fields = 0;
            for (Field f : c.getDeclaredFields()) {
                boolean isStatic = Modifier.isStatic(f.getModifiers());
                CHECKS.yes(f + " is final if static", !isStatic || Modifier.isFinal(f.getModifiers()));
                CHECKS.yes(f + " is private", f.getName().equals("NONE") || Modifier.isPrivate(f.getModifiers()));
                fields += isStatic ? 0 : 1;
            }
            CHECKS.yes(c + " has at most twenty fields", fields <= 20);
            for (Method m : c.getDeclaredMethods()) {
                parameterCount(m);
            }
            for (Executable e : c.getDeclaredConstructors()) {
                parameterCount(e);
            }
        }
    }

    private static void parameterCount(Executable e) {
        CHECKS.yes(e + " has at most seven parameters", e.getParameterCount() <= 7);
    }

    private static void words(String source) {
        String code = source.replaceAll("(?s)/\\*.*?\\*/", " ").replaceAll("//[^\n]*", " ");
        code = code.replaceAll("\"[^\"\n]*\"", "\"\"");
        for (String word : FORBIDDEN) {
            boolean isThere = code.matches("(?s).*\\b" + java.util.regex.Pattern.quote(word) + "\\b.*");
            CHECKS.no("the word " + word, isThere);
        }
        CHECKS.no("a lambda or an arrow", code.contains("->"));
        CHECKS.no("a method reference", code.contains("::"));
        CHECKS.no("Exact functions", code.contains("Exact("));
        CHECKS.no("texts joined by +", code.matches("(?s).*(\"\\s*\\+|\\+\\s*\").*"));
        for (char c : source.toCharArray()) {
            CHECKS.yes("a plain character", c < 128);
        }
    }

    /** A method begins at a line that ends in "{" behind ")" and ends at a "}" as far to the left. */
    private static void methodLengths(String source) {
        String[] lines = source.split("\n");
        for (int i = 0; i < lines.length; i++) {
            if (!lines[i].matches("( {4}| {8})\\w.*\\) \\{")) {
                continue;
            }
            String end = lines[i].replaceAll("\\S.*", "") + "}";
            int n = i;
            while (n < lines.length && !lines[n].equals(end)) {
                n++;
            }
            CHECKS.yes("at most sixty lines:" + lines[i], n - i < 60);
        }
    }
}
