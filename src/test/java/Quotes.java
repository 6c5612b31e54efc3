import java.io.IOException;
import java.nio.file.Files;
import java.nio.file.Path;
import java.util.BitSet;

/** The document's words, and which of them a test has quoted: so that none of a promise is left without a test. */
final class Quotes {
    private static final int PROMISES = 33;
    private static final String NEXT = "\n## ";

    /** For each promise what stands behind its call; for 0 all that stands ahead of the promises. */
    private final String[] texts = new String[PROMISES + 1];
    private final BitSet[] quoted = new BitSet[PROMISES + 1];

    Quotes(Path document) throws IOException {
        String text = Files.readString(document);
        texts[0] = text.substring(0, text.indexOf(NEXT + "Promise 1:"));
        quoted[0] = new BitSet();
        for (int promise = 1; promise <= PROMISES; promise++) {
            int title = text.indexOf(NEXT + "Promise " + promise + ":");
            int start = text.indexOf("`: ", title) + 3;
            texts[promise] = text.substring(start, text.indexOf(NEXT, start));
            quoted[promise] = new BitSet();
        }
    }

    boolean says(int promise, String words) {
        return !words.isEmpty() && texts[promise].contains(words);
    }

    void quote(int promise, String words) {
        int at = texts[promise].indexOf(words);
        while (at >= 0) {
            quoted[promise].set(at, at + words.length());
            at = texts[promise].indexOf(words, at + 1);
        }
    }

    void check(Due due) {
        for (int promise = 1; promise <= PROMISES; promise++) {
            StringBuilder left = new StringBuilder();
            String text = texts[promise];
            for (int at = 0; at < text.length(); at++) {
                if (Character.isLetterOrDigit(text.charAt(at)) && !quoted[promise].get(at)) {
                    left.append(text.charAt(at));
                }
            }
            due.holds("promise " + promise + ": words that no test quotes: " + left, left.length() == 0);
        }
    }
}
