import java.nio.charset.StandardCharsets;
import java.util.ArrayList;
import java.util.List;

/** What the tests share: counting wrong answers, and telling texts byte by byte. */
final class Check {
    private final String name;
    private final List<String> quotes = new ArrayList<>();
    private int asked;
    private int askedAheadOfQuote;
    private int wrong;

    Check(String name) {
        this.name = name;
    }

    void due(String what, long got, long want) {
        asked++;
        if (got != want) {
            wrong++;
            String sentence = quotes.isEmpty() ? "" : " (" + quotes.get(quotes.size() - 1) + ")";
            System.out.println(name + ": " + what + " answered " + got + ", due is " + want + sentence);
        }
    }

    void due(String what, boolean got, boolean want) {
        due(what, got ? 1 : 0, want ? 1 : 0);
    }

    /** Names the words of the document that the next answers are about. */
    void quote(String words) {
        endQuote();
        quotes.add(words);
        askedAheadOfQuote = asked;
    }

    private void endQuote() {
        if (!quotes.isEmpty() && asked == askedAheadOfQuote) {
            due("tests of: " + quotes.get(quotes.size() - 1), 0, 1);
        }
    }

    /** The words quoted since the last time, in their order. */
    List<String> takeQuotes() {
        endQuote();
        List<String> taken = new ArrayList<>(quotes);
        quotes.clear();
        return taken;
    }

    /** Ends the test: exit code 1 if an answer was wrong. */
    void close() {
        System.out.println(name + ": " + asked + " answers, " + wrong + " wrong");
        if (wrong != 0 || asked == 0) {
            System.exit(1);
        }
    }

    static void fill(OxenHome home, String text) {
        fill(home, text.getBytes(StandardCharsets.ISO_8859_1));
    }

    /** Puts just these bytes on the tape. */
    static void fill(OxenHome home, byte[] text) {
        home.end(0);
        for (int from = 0; from < text.length; from += 20) {
            home.feed(four(text, from), four(text, from + 4), four(text, from + 8),
                four(text, from + 12), four(text, from + 16));
        }
        home.end(text.length);
    }

    private static int four(byte[] text, int from) {
        int all = 0;
        for (int i = from; i < from + 4; i++) {
            all = all << 8 | (i < text.length ? text[i] & 255 : 0);
        }
        return all;
    }

    /** Tells a TEXT: its number. */
    static int tell(OxenHome home, String text) {
        fill(home, text);
        return home.text();
    }

    /** Tells a TEXT that rules from now on. */
    static void rule(OxenHome home, String text) {
        int number = tell(home, text);
        if (number < 0 || !home.by(number)) {
            throw new IllegalStateException("not a text: " + text);
        }
    }
}
