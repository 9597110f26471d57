import java.io.IOException;
import java.nio.file.Files;
import java.nio.file.Path;
import java.util.List;

/** The document's own words, so that a test can show that its quotes leave none of them out. */
final class Document {
    private static final Path PLACE = Path.of("../shared/DOC.md");

    private final String words;

    Document() throws IOException {
        if (Files.isReadable(PLACE)) {
            String text = Files.readString(PLACE);
            words = text.replaceAll("```(text|java)?", " ").replaceAll("\\s+", " ");
        } else {
            // The answers can be tested without it.
            System.out.println(PLACE + " can't be read: quotes are not held against it");
            words = "";
        }
    }

    /** That a test's quotes are all that a promise says behind its method. */
    void covered(Check check, int promise) {
        List<String> quotes = check.takeQuotes();
        if (!words.isEmpty()) {
            String all = part("## Promise " + promise + ": ", promise < 30 ? "## Promise " : "## Not promised");
            covered(check, "promise " + promise, all.substring(all.indexOf("`: ") + 3).trim(), quotes);
        }
    }

    /** That a test's quotes are all the words from these on, up to those. */
    void covered(Check check, String from, String to) {
        List<String> quotes = check.takeQuotes();
        if (!words.isEmpty()) {
            covered(check, "the part from " + from, part(from, to), quotes);
        }
    }

    private String part(String from, String to) {
        int start = words.indexOf(from);
        int end = start < 0 ? -1 : words.indexOf(to, start + from.length());
        if (end < 0) {
            throw new IllegalStateException("the document has no part from " + from + " to " + to);
        }
        return words.substring(start, end);
    }

    private static void covered(Check check, String what, String part, List<String> quotes) {
        int at = 0;
        for (String quote : quotes) {
            int found = part.indexOf(quote, at);
            check.due(what + " says: " + quote, found >= 0, true);
            if (found >= 0) {
                noLetters(check, what, part.substring(at, found));
                at = found + quote.length();
            }
        }
        noLetters(check, what, part.substring(at));
    }

    private static void noLetters(Check check, String what, String left) {
        String letters = left.replaceAll("[^A-Za-z0-9]", "");
        check.due(what + ", not quoted: " + left.trim(), letters.length(), 0);
    }
}
