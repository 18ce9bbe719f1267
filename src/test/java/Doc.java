import java.io.IOException;
import java.nio.file.Files;
import java.nio.file.Path;

/** The document, so that a test can say which of its sentences it is about. */
final class Doc {
    private static final Path FILE = Path.of("../shared/DOC.md");
    private static final String TEXT = read();

    private Doc() {
    }

    private static String read() {
        try {
            return Files.exists(FILE) ? plain(Files.readString(FILE)) : "";
        } catch (IOException gone) {
            return "";
        }
    }

    private static String plain(String text) {
        return text.replace("`", "").replaceAll("\\s+", " ");
    }

    /** Whether a section ("Terms", "Promise 7") has these words; true if the document isn't there to be read. */
    static boolean says(String section, String words) {
        if (TEXT.isEmpty()) {
            return true;
        }
        int from = TEXT.indexOf("## " + section + (section.startsWith("Promise") ? ":" : " "));
        if (from < 0) {
            return false;
        }
        int to = TEXT.indexOf("## ", from + 3);
        return TEXT.substring(from, to < 0 ? TEXT.length() : to).contains(plain(words));
    }
}
