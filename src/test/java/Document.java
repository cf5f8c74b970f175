import java.io.IOException;
import java.io.UncheckedIOException;
import java.nio.file.Files;
import java.nio.file.Path;

/** The document's words by promise, so that a test can bear the sentence that it is for. */
final class Document {
    static final int TERMS = 0, PROMISES = 42;
    private static final Path PLACE = Path.of("..", "shared", "DOC.md");

    private final String[] words = new String[PROMISES + 1];
    private final boolean[][] quoted = new boolean[PROMISES + 1][];

    Document() {
        String whole = whole();
        words[TERMS] = plain(between(whole, "\n## Terms\n", "\nAhead of the calls").replaceAll("(?m)^```.*$", ""));
        for (int p = 1; p <= PROMISES; p++) {
            String section = between(whole, "\n## Promise " + p + ": ", "\n## ");
            words[p] = plain(section.substring(section.indexOf("`: ") + 3));
        }
        for (int p = 0; p <= PROMISES; p++) {
            quoted[p] = new boolean[words[p].length()];
        }
    }

    private static String whole() {
        try {
            return Files.readString(PLACE);
        } catch (IOException e) {
            throw new UncheckedIOException(e);
        }
    }

    private static String between(String whole, String first, String last) {
        int from = whole.indexOf(first);
        int to = whole.indexOf(last, from + first.length());
        if (from < 0 || to < 0) {
            throw new IllegalStateException("the document has no part from '" + first + "' to '" + last + "'");
        }
        return whole.substring(from + first.length(), to);
    }

    private static String plain(String s) {
        return s.replaceAll("\\s+", " ").trim();
    }

    /** Marks a sentence, or a part of one, as borne by a test: whether it stands there. */
    boolean quote(int promise, String sentence) {
        int from = words[promise].indexOf(plain(sentence));
        for (int i = 0; from >= 0 && i < plain(sentence).length(); i++) {
            quoted[promise][from + i] = true;
        }
        return from >= 0;
    }

    /** What of a promise no test bears. */
    String unquoted(int promise) {
        StringBuilder s = new StringBuilder();
        for (int i = 0; i < words[promise].length(); i++) {
            if (!quoted[promise][i]) {
                s.append(words[promise].charAt(i));
            }
        }
        return s.toString().trim();
    }
}
