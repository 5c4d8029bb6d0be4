import java.io.IOException;
import java.io.UncheckedIOException;
import java.nio.file.Files;
import java.nio.file.Path;

/** The document, so that a test can name the sentence that it holds to. */
final class Doc {

    static final int PROMISES = 54;

    private static final String TEXT = oneLine(read());

    private Doc() {
    }

    private static String read() {
        try {
            return Files.readString(Path.of("../shared/DOC.md"));
        } catch (IOException e) {
            throw new UncheckedIOException(e);
        }
    }

    private static String oneLine(String text) {
        return text.replaceAll("\\s+", " ");
    }

    /** Whether the "Description" has these words. */
    static boolean describes(String words) {
        return between("## Description", "## Promise 1:").contains(oneLine(words));
    }

    /** Whether the promise has these words. */
    static boolean promises(int number, String words) {
        String next = number == PROMISES ? "## Not promised" : "## Promise " + (number + 1) + ":";
        return between("## Promise " + number + ":", next).contains(oneLine(words));
    }

    /** The signature of a promise, as it is told below its heading. */
    static String signature(int number) {
        String promise = TEXT.substring(TEXT.indexOf("## Promise " + number + ":"));
        return promise.split("`", 3)[1];
    }

    private static String between(String start, String end) {
        return TEXT.substring(TEXT.indexOf(start), TEXT.indexOf(end));
    }
}
