import java.io.IOException;
import java.io.UncheckedIOException;
import java.nio.file.Files;
import java.nio.file.Path;

/** The document's words, cut at its promises, so that a test can name the sentence that it is about. */
final class Document {
    static final int PROMISES = 33;
    private static final Path FILE = Path.of("../shared/DOC.md");
    private static final String[] PARTS = read();

    private Document() {
    }

    /** Whether the words stand under a promise; under 0 is what stands ahead of the first one. */
    static boolean says(int promise, String words) {
        return promise >= 0 && promise < PARTS.length && PARTS[promise].contains(words);
    }

    /** What stands ahead of the first promise. */
    static String head() {
        return PARTS[0];
    }

    private static String[] read() {
        try {
            String[] parts = Files.readString(FILE).split("## Promise [0-9]+: ");
            for (int i = 0; i < parts.length; i++) {
                parts[i] = parts[i].replaceAll("\\s+", " ");
            }
            return parts;
        } catch (IOException e) {
            throw new UncheckedIOException(e);
        }
    }
}
