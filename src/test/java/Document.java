import java.io.IOException;
import java.io.UncheckedIOException;
import java.nio.file.Files;
import java.nio.file.Path;

/** The document's words, so that a test that names a sentence names one that stands there. */
final class Document {
    private static final String WORDS = inOneLine(read());

    private Document() {
    }

    private static String read() {
        try {
            return Files.readString(Path.of("../shared/DOC.md"));
        } catch (IOException e) {
            throw new UncheckedIOException(e);
        }
    }

    private static String inOneLine(String text) {
        return text.replaceAll("\\s+", " ");
    }

    static boolean says(String words) {
        return WORDS.contains(inOneLine(words));
    }
}
