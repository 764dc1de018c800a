import java.io.IOException;
import java.nio.file.DirectoryStream;
import java.nio.file.Files;
import java.nio.file.Path;
import java.util.LinkedHashMap;
import java.util.Map;
import java.util.regex.Matcher;
import java.util.regex.Pattern;

/** Every sentence of the terms and of the promises is quoted by a test of its edges, so none goes without. */
public final class SentencesTest {
    private static final Due due = new Due();
    private static final Path TESTS = Path.of("src", "test", "java");
    private static final Pattern QUOTE =
            Pattern.compile("due\\.(promise|term)\\((?:(\\d+), )?\"((?:[^\"\\\\]|\\\\.)*)\"\\);");
    /** What is no sentence: fences, the numbers of parts, the call's own head and what only joins. */
    private static final String[] JOINTS = {"```text", "```", "==== \\d\\.", "`[^`]*`:", "What it must be:", "[ ,;:]+"};

    private final Map<String, boolean[]> quoted = new LinkedHashMap<>();

    public static void main(String[] args) throws IOException {
        SentencesTest test = new SentencesTest();
        test.readTests();
        test.isQuoted(Document.TERMS);
        for (int promise = 1; promise <= Document.PROMISES; promise++) {
            test.isQuoted(Document.promise(promise));
        }
        due.close("SentencesTest");
    }

    private void readTests() throws IOException {
        try (DirectoryStream<Path> files = Files.newDirectoryStream(TESTS, "Boundary*Test.java")) {
            for (Path file : files) {
                Matcher matcher = QUOTE.matcher(Files.readString(file));
                while (matcher.find()) {
                    boolean isTerm = matcher.group(1).equals("term");
                    mark(isTerm ? Document.TERMS : "Promise " + matcher.group(2), matcher.group(3));
                }
            }
        }
    }

    private void mark(String section, String quote) {
        String text = Document.section(section);
        boolean[] marks = quoted.computeIfAbsent(section, name -> new boolean[text.length()]);
        int at = text.indexOf(quote);
        due.is("in '" + section + "' stands: " + quote, true, at >= 0);
        while (at >= 0) {
            for (int i = at; i < at + quote.length(); i++) {
                marks[i] = true;
            }
            at = text.indexOf(quote, at + 1);
        }
    }

    private void isQuoted(String section) {
        String text = Document.section(section);
        due.is("there is '" + section + "'", false, text.isEmpty());
        boolean[] marks = quoted.getOrDefault(section, new boolean[text.length()]);
        StringBuilder left = new StringBuilder();
        for (int i = 0; i < text.length(); i++) {
            left.append(marks[i] ? ' ' : text.charAt(i));
        }
        String rest = left.toString();
        for (String joint : JOINTS) {
            rest = rest.replaceAll(joint, " ");
        }
        due.is("without a test in '" + section + "': " + rest.trim(), true, rest.isBlank());
    }
}
