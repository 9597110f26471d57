import java.io.IOException;
import java.nio.file.Files;
import java.nio.file.Path;
import java.util.List;

/** The document's own words, so that a test can show that its quotes leave none of them out. */
final class Document {
    private final String words;

    Document() throws IOException {
        String text = Files.readString(Path.of("../shared/DOC.md"));
        words = text.replaceAll("```(text|java)?", " ").replaceAll("\\s+", " ");
    }

    /** What a promise says behind its method. */
    String promise(int number) {
        String all = part("## Promise " + number + ": ", number < 30 ? "## Promise " : "## Not promised");
        return all.substring(all.indexOf("`: ") + 3).trim();
    }

    /** The words from these on, up to those. */
    String part(String from, String to) {
        int start = words.indexOf(from);
        int end = start < 0 ? -1 : words.indexOf(to, start + from.length());
        if (end < 0) {
            throw new IllegalStateException("the document has no part from " + from + " to " + to);
        }
        return words.substring(start, end);
    }

    /** That the quotes, one behind the other, are all the words of the part. */
    static void covered(Check check, String what, String part, List<String> quotes) {
        int at = 0;
        for (String quote : quotes) {
            int found = part.indexOf(quote, at);
            check.due(what + " says: " + quote, found >= 0, true);
            if (found >= 0) {
                noLetters(check, what, part.substring(at, found));
                at = found + quote.length();
            }
        }
        noLetters(check, what, part.substring(at));
    }

    private static void noLetters(Check check, String what, String left) {
        String letters = left.replaceAll("[^A-Za-z0-9]", "");
        check.due(what + ", not quoted: " + left.trim(), letters.length(), 0);
    }
}
