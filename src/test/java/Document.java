import java.io.IOException;
import java.nio.charset.StandardCharsets;
import java.nio.file.Files;
import java.nio.file.Path;
import java.nio.file.Paths;

/** The document's words, so that a test that quotes a sentence quotes it rightly. */
final class Document {
    private static final Path PLACE = Paths.get("../shared/DOC.md");

    private Document() {
    }

    static String words() {
        try {
            return plain(new String(Files.readAllBytes(PLACE), StandardCharsets.UTF_8));
        } catch (IOException e) {
            throw new IllegalStateException("the document can't be read: " + PLACE, e);
        }
    }

    /** Line ends, code fences and runs of blanks say nothing. */
    static String plain(String text) {
        return text.replace("```text", " ").replace("```", " ").replaceAll("\\s+", " ");
    }
}
