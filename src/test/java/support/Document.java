import java.io.IOException;
import java.nio.file.Files;
import java.nio.file.Path;

/** The document, so that a test can show that it holds a sentence that stands there. */
final class Document {
    private static final Path PLACE = Path.of("../shared/DOC.md");
    private static final String WORDS = read();

    private Document() {
    }

    private static String read() {
        try {
            return plain(Files.readString(PLACE));
        } catch (IOException e) {
            System.out.println("no document at " + PLACE.toAbsolutePath() + ": what it says is not looked up");
            return "";
        }
    }

    /** Where lines end and which marks stand around words is of no account. */
    private static String plain(String words) {
        return words.replace("`", "").replaceAll("\\s+", " ").trim();
    }

    static boolean says(String sentence) {
        return WORDS.isEmpty() || WORDS.contains(plain(sentence));
    }
}
