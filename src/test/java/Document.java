import java.io.IOException;
import java.nio.file.Files;
import java.nio.file.Path;
import java.util.ArrayList;
import java.util.List;
import java.util.regex.Matcher;
import java.util.regex.Pattern;

/** The document's words, and which of them a test has quoted. */
final class Document {
    private static final Path PLACE = Path.of("../shared/DOC.md");
    private static final Pattern HEADING = Pattern.compile(
        "## Promise \\d+: [\\w ]+ `[^`]*`:|## (What it is|Terms|Not promised)|# OneCable");

    private final String text;
    private final StringBuilder left;

    private Document(String text) {
        this.text = text;
        this.left = new StringBuilder(text);
    }

    /** Null where the document is not at its place: then quotes can't be compared, and the answers alone count. */
    static Document read() {
        if (!Files.exists(PLACE)) {
            return null;
        }
        try {
            return new Document(plain(Files.readString(PLACE)));
        } catch (IOException e) {
            throw new IllegalStateException("no document at " + PLACE, e);
        }
    }

    private static String plain(String text) {
        return text.replaceAll("(?s)```text(.*?)```", " $1 ").replaceAll("\\s+", " ");
    }

    /** Whether the sentence stands there word for word; it counts as tested from then on. */
    boolean quote(String sentence) {
        String wanted = plain(sentence).trim();
        int from = text.indexOf(wanted);
        boolean found = from >= 0 && !wanted.isEmpty();
        while (from >= 0 && !wanted.isEmpty()) {
            for (int i = from; i < from + wanted.length(); i++) {
                left.setCharAt(i, '#');
            }
            from = text.indexOf(wanted, from + 1);
        }
        return found;
    }

    /** What no test has quoted, but for headings, the public face in Java and stops between sentences. */
    String unquoted() {
        String rest = left.toString().replaceFirst("## The public face ```java.*?``` ", "");
        Matcher heading = HEADING.matcher(rest);
        return heading.replaceAll("").replaceAll("==== \\d\\.", "").replaceAll("[#.,:;\\s]+", " ").trim();
    }

    /** The lines of the public face, as the document writes them; none where it has no such block. */
    List<String> face() {
        List<String> lines = new ArrayList<>();
        Matcher block = Pattern.compile("```java(.*?)```").matcher(text);
        if (block.find()) {
            Matcher line = Pattern.compile("public [^;{]*;").matcher(block.group(1));
            while (line.find()) {
                lines.add(line.group());
            }
        }
        return lines;
    }
}
