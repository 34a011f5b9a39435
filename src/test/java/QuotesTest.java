import java.io.IOException;
import java.nio.file.Files;
import java.nio.file.Path;
import java.util.List;
import java.util.regex.Matcher;
import java.util.regex.Pattern;
import java.util.stream.Collectors;
import java.util.stream.Stream;

/** Every word of the document's terms and promises is quoted by a test that holds the class to it. */
public final class QuotesTest {
    private static final String TEXT = "\"(?:[^\"\\\\]|\\\\.)*\"";
    private static final Pattern QUOTE =
        Pattern.compile("Doc\\.(promise\\((\\d+), |terms\\(|use\\()(" + TEXT + "(?:\\s*\\+\\s*" + TEXT + ")*)\\)");

    public static void main(String[] args) throws IOException {
        StringBuilder sources = new StringBuilder();
        for (Path test : tests()) {
            sources.append(Files.readString(test));
        }
        for (int n = 1; n <= 43; n++) {
            covered("Promise " + n, promiseWords(n), sources);
        }
        covered("Terms", termsWords(), sources);
        Checks.finish();
    }

    private static List<Path> tests() throws IOException {
        try (Stream<Path> all = Files.list(Path.of("src/test/java"))) {
            return all.filter(p -> p.getFileName().toString().startsWith("Edge")).collect(Collectors.toList());
        }
    }

    /** A promise without the call's own line. */
    private static String promiseWords(int n) {
        return Doc.section("Promise " + n).replaceFirst("^`[^`]*`: ", "");
    }

    /** The terms without the numbers of their parts, and without what the interface says ahead of calls. */
    private static String termsWords() {
        return Doc.section("Terms").replaceAll("==== \\d\\.", "").replaceAll("Ahead of the calls [^-]*---- [^.]*\\.", "");
    }

    private static void covered(String title, String words, CharSequence sources) {
        StringBuilder rest = new StringBuilder(words);
        Matcher quotes = QUOTE.matcher(sources);
        while (quotes.find()) {
            String of = quotes.group(2) != null ? "Promise " + quotes.group(2) : "Terms";
            if (of.equals(title)) {
                strike(rest, words, joined(quotes.group(3)));
            }
        }
        String left = rest.toString().replaceAll("\\u0000+", " ... ").replaceAll("[ .]+", " ").trim();
        Checks.dueTrue(title + ": no test quotes \"" + left + "\"", !left.matches(".*[A-Za-z0-9].*"));
        Checks.dueTrue(title + " has words", words.length() > 5);
    }

    private static String joined(String literals) {
        StringBuilder all = new StringBuilder();
        Matcher parts = Pattern.compile(TEXT).matcher(literals);
        while (parts.find()) {
            String part = parts.group();
            all.append(part, 1, part.length() - 1);
        }
        return all.toString().replace("\\\"", "\"");
    }

    private static void strike(StringBuilder rest, String words, String quote) {
        for (int at = words.indexOf(quote); at >= 0; at = words.indexOf(quote, at + 1)) {
            for (int i = at; i < at + quote.length(); i++) {
                rest.setCharAt(i, '\0');
            }
        }
    }
}
