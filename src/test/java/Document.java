import java.io.IOException;
import java.nio.file.Files;
import java.nio.file.Path;
import java.util.regex.Matcher;
import java.util.regex.Pattern;

/** The document's words, and which of them a test has quoted. */
final class Document {
    private static final Path PLACE = Path.of("../shared/DOC.md");
    private static final Pattern PROMISE = Pattern.compile("## Promise \\d+: [\\w ]+ `[^`]*`:");

    private final String text;
    private final StringBuilder left;

    private Document(String text) {
        this.text = text;
        this.left = new StringBuilder(text);
    }

    /** Null where the document is not at its place: then quotes can't be compared, and the answers alone count. */
    static Document read() {
        if (!Files.exists(PLACE)) {
            return null;
        }
        try {
            return new Document(plain(Files.readString(PLACE)));
        } catch (IOException e) {
            throw new IllegalStateException("no document at " + PLACE, e);
        }
    }

    private static String plain(String text) {
        return text.replace("```text", " ").replace("```", " ").replaceAll("\\s+", " ");
    }

    /** Whether the sentence stands there word for word; it counts as tested from then on. */
    boolean quote(String sentence) {
        String wanted = plain(sentence).trim();
        int from = text.indexOf(wanted);
        boolean found = from >= 0 && !wanted.isEmpty();
        while (from >= 0 && !wanted.isEmpty()) {
            for (int i = from; i < from + wanted.length(); i++) {
                left.setCharAt(i, '#');
            }
            from = text.indexOf(wanted, from + 1);
        }
        return found;
    }

    /** What no test has quoted of the terms and promises, but for headings and stops between sentences. */
    String unquoted() {
        int begin = text.indexOf("## Terms");
        int end = text.indexOf("## Not promised");
        if (begin < 0 || end < begin) {
            return "the sections Terms and Not promised";
        }
        String rest = left.substring(begin, end).replace("## Terms", "");
        Matcher heading = PROMISE.matcher(rest);
        return heading.replaceAll("").replaceAll("==== \\d\\.", "").replaceAll("[#.,:;\\s]+", " ").trim();
    }
}
