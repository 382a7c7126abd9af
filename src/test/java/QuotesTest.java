import java.io.IOException;
import java.nio.file.Files;
import java.nio.file.Path;
import java.util.ArrayList;
import java.util.List;
import java.util.Map;
import java.util.TreeMap;
import java.util.regex.Matcher;
import java.util.regex.Pattern;
import java.util.stream.Stream;

/**
 * No sentence of the document without a test: what the tests quote by CHECKS.about stands in the document, where
 * they say it does, and all of it together is the whole document.
 */
public final class QuotesTest {
    private static final Checks CHECKS = new Checks("QuotesTest");
    private static final Path DOCUMENT = Path.of("../shared/DOC.md");
    private static final Path TESTS = Path.of("src/test/java");
    private static final int PROMISES = 31;
    private static final String TEXT = "\"(?:[^\"\\\\]|\\\\.)*\"";
    private static final Pattern QUOTE =
            Pattern.compile("CHECKS\\.about\\((\\d+),\\s*(" + TEXT + "(?:\\s*\\+\\s*" + TEXT + ")*)\\)");
    /** What leaves free has nothing that a test could find broken. */
    private static final String FREE = "what later calls answer is free.";

    /** The words of each promise; 0 is all that stands before the first one. */
    private final Map<Integer, String> words = new TreeMap<>();
    private final Map<Integer, boolean[]> quoted = new TreeMap<>();

    public static void main(String[] args) throws IOException {
        QuotesTest test = new QuotesTest();
        test.readDocument(Files.readString(DOCUMENT));
        try (Stream<Path> files = Files.list(TESTS)) {
            for (Path file : files.filter(path -> path.toString().endsWith("Test.java")).sorted().toList()) {
                test.readTest(file);
            }
        }
        test.quote(0, FREE);
        test.lookForTheRest();
        CHECKS.end();
    }

    private static String oneLine(String text) {
        return text.replaceAll("\\s+", " ").trim();
    }

    /** "Not promised" behind the last promise takes back, and asks for nothing. */
    private void readDocument(String document) {
        String[] parts = document.split("(?m)^## ");
        StringBuilder terms = new StringBuilder();
        for (String part : parts) {
            String title = part.substring(0, part.indexOf('\n'));
            String text = part.substring(title.length());
            Matcher promise = Pattern.compile("Promise (\\d+): .*").matcher(title);
            if (promise.matches()) {
                // A promise begins with the head of its method, which FormTest looks at.
                words.put(Integer.valueOf(promise.group(1)), oneLine(text.replaceFirst("`[^`]*`: ", "")));
            } else if (title.equals("What it is") || title.equals("Terms")) {
                terms.append(text.replaceAll("(?m)^(```.*|==== \\d\\. )", "")).append('\n');
            } else {
                CHECKS.yes("the title " + title, title.equals("# BridgeClub") || title.equals("The public face")
                        || title.equals("Not promised"));
            }
        }
        words.put(0, oneLine(terms.toString()));
        CHECKS.same("promises in the document", words.size() - 1, PROMISES);
        words.forEach((promise, text) -> quoted.put(promise, new boolean[text.length()]));
    }

    private void readTest(Path file) throws IOException {
        String source = Files.readString(file);
        Matcher about = QUOTE.matcher(source);
        while (about.find()) {
            String quote = about.group(2).replaceAll("\"\\s*\\+\\s*\"", "");
            quote = quote.substring(1, quote.length() - 1).replace("\\\"", "\"");
            int promise = Integer.parseInt(about.group(1));
            CHECKS.yes(file + " quotes promise " + promise + ": " + quote, quote(promise, quote));
        }
        everyMethodIsCalled(file, source);
    }

    /** A test that main forgets would quote in vain. */
    private static void everyMethodIsCalled(Path file, String source) {
        Matcher method = Pattern.compile("private (?:static )?[\\w<>\\[\\]]+ (\\w+)\\(").matcher(source);
        while (method.find()) {
            int uses = source.split("\\b" + method.group(1) + "\\(", -1).length - 1;
            CHECKS.yes(file + " calls " + method.group(1), uses >= 2);
        }
    }

    /** Marks where the quote stands; false if it doesn't. */
    private boolean quote(int promise, String quote) {
        String text = words.getOrDefault(promise, "");
        int from = text.indexOf(quote);
        for (int at = from; at != -1; at = text.indexOf(quote, at + 1)) {
            for (int i = at; i < at + quote.length(); i++) {
                quoted.get(promise)[i] = true;
            }
        }
        return from != -1;
    }

    private void lookForTheRest() {
        for (Map.Entry<Integer, String> entry : words.entrySet()) {
            for (String rest : rest(entry.getValue(), quoted.get(entry.getKey()))) {
                String where = entry.getKey() == 0 ? "the terms" : "promise " + entry.getKey();
                CHECKS.no("no test quotes of " + where + ": " + rest, true);
            }
            CHECKS.yes("the words of " + entry.getKey(), !entry.getValue().isEmpty());
        }
    }

    /** The pieces that are not marked, but for blanks and signs. */
    private static List<String> rest(String text, boolean[] marked) {
        List<String> all = new ArrayList<>();
        StringBuilder piece = new StringBuilder();
        for (int i = 0; i <= text.length(); i++) {
            if (i < text.length() && !marked[i]) {
                piece.append(text.charAt(i));
                continue;
            }
            if (piece.chars().anyMatch(Character::isLetterOrDigit)) {
                all.add(piece.toString());
            }
            piece.setLength(0);
        }
        return all;
    }
}
