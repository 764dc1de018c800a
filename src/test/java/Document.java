import java.io.IOException;
import java.nio.charset.StandardCharsets;
import java.nio.file.Files;
import java.nio.file.Path;
import java.util.LinkedHashMap;
import java.util.Map;

/** The document by its sections, so that a test can show the sentence it is about. */
final class Document {
    static final String TERMS = "Terms";
    static final String WHAT_IT_IS = "What it is";
    static final int PROMISES = 46;

    private static final Path PLACE = Path.of("..", "shared", "DOC.md");
    private static final Map<String, String> SECTIONS = read();

    private Document() {
    }

    static String promise(int number) {
        return "Promise " + number;
    }

    /** A section's text with one blank wherever there are blanks or new lines; empty, if there is none. */
    static String section(String name) {
        return SECTIONS.getOrDefault(name, "");
    }

    static boolean says(String name, String sentence) {
        return section(name).contains(sentence);
    }

    private static Map<String, String> read() {
        Map<String, String> sections = new LinkedHashMap<>();
        try {
            String text = Files.readString(PLACE, StandardCharsets.UTF_8);
            for (String part : text.split("(?m)^## ")) {
                int end = part.indexOf('\n');
                if (end > 0) {
                    String name = part.substring(0, end).replaceAll(":.*", "").trim();
                    sections.put(name, part.substring(end).replaceAll("\\s+", " ").trim());
                }
            }
        } catch (IOException e) {
            System.out.println("no " + PLACE + " here");
        }
        return sections;
    }
}
