import java.io.IOException;
import java.io.UncheckedIOException;
import java.nio.file.Files;
import java.nio.file.Path;

/**
 * The document's own words. A test quotes the sentence that it holds the class to, and the quote must stand in the
 * document to the letter, so that one finds the sentence from the test and learns of it when the document changes.
 */
final class Doc {
    private static final Path PLACE = Path.of("../shared/DOC.md");
    private static String whole = null;

    private Doc() {
    }

    static void promise(int n, String words) {
        quote("Promise " + n, words);
    }

    static void terms(String words) {
        quote("Terms", words);
    }

    static void use(String words) {
        quote("What it is", words);
    }

    private static void quote(String title, String words) {
        Checks.about(title + ": " + words);
        Checks.dueTrue("the document's words", section(title).contains(words));
    }

    /** What stands below a title, without marks and with single blanks. */
    static String section(String title) {
        if (whole == null) {
            whole = read();
        }
        StringBuilder found = new StringBuilder();
        boolean within = false;
        for (String line : whole.split("\n")) {
            if (line.startsWith("## ")) {
                within = line.equals("## " + title) || line.startsWith("## " + title + ":");
            } else if (within && !line.startsWith("```")) {
                found.append(line).append(' ');
            }
        }
        return found.toString().replaceAll("\\s+", " ").trim();
    }

    private static String read() {
        try {
            return Files.readString(PLACE);
        } catch (IOException e) {
            throw new UncheckedIOException(e);
        }
    }
}
