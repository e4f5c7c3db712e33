import java.io.IOException;
import java.nio.file.Files;
import java.nio.file.Path;

/** The document, so that a test that is named by a sentence names one that stands there. */
final class Document {
    private static final Path PLACE = Path.of("../shared/DOC.md");
    private static final String TEXT = read();

    private Document() {
    }

    /** A section is named by its heading's first words, "Terms" or "Promise 2", and ends at the next heading. */
    static boolean has(String section, String words) {
        if (TEXT.isEmpty()) {
            return true;
        }
        int begin = Math.max(TEXT.indexOf("\n## " + section + "\n"), TEXT.indexOf("\n## " + section + ":"));
        if (begin < 0) {
            return false;
        }
        int end = TEXT.indexOf("\n## ", begin + 1);
        return TEXT.substring(begin, end < 0 ? TEXT.length() : end).contains(words);
    }

    /** Without the document the tests of the class still run; only their names are not looked up. */
    private static String read() {
        try {
            return Files.readString(PLACE);
        } catch (IOException e) {
            System.out.println("no document at " + PLACE + ": the sentences are not looked up");
            return "";
        }
    }
}
