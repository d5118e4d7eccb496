import java.util.NoSuchElementException;

/** Compares answers with those that are due, and feeds texts. */
final class Check {
    private static final int SHOWN = 30;
    private int wrong;
    private int asked;
    private final Document document = Document.read();
    private String sentence = "";

    void due(String what, long got, long want) {
        asked++;
        if (got != want) {
            wrong++;
            if (wrong <= SHOWN) {
                System.out.println(sentence + what + " answered " + got + ", due is " + want);
            }
        }
    }

    /** The sentence of the document that the next answers are due by; it must stand there. */
    void says(String words) {
        sentence = "\"" + words + "\"\n    ";
        due("stands in the document", document == null || document.quote(words), true);
    }

    /** No sentence may be without a test. */
    void allSaid() {
        sentence = "";
        String unquoted = document == null ? "" : document.unquoted();
        due("no test quotes: " + unquoted, unquoted.isEmpty(), true);
    }

    void due(String what, boolean got, boolean want) {
        due(what, got ? 1 : 0, want ? 1 : 0);
    }

    boolean isGood() {
        return wrong == 0;
    }

    void end(String name) {
        System.out.println(name + ": " + asked + " answers, " + wrong + " wrong");
        if (wrong != 0) {
            System.exit(1);
        }
    }

    /** Feeds the text in rows of 24 signs, the rest filled up with zero bytes. */
    static int feed(OneCable cable, String text) {
        int count = cable.count(9);
        for (int from = 0; from < text.length(); from += 24) {
            count = cable.feed(eight(text, from), eight(text, from + 8), eight(text, from + 16));
        }
        return count;
    }

    static int tell(OneCable cable, String text) {
        feed(cable, text);
        return cable.bay();
    }

    static OneCable told(String text) {
        OneCable cable = new OneCable();
        int fault = tell(cable, text);
        if (fault != 0) {
            throw new IllegalStateException("a test's bay has the fault " + fault % 16
                + " at " + fault / 16 + ": " + text);
        }
        return cable;
    }

    /** What storm answers; Integer.MIN_VALUE stands for NoSuchElementException. */
    static int storm(OneCable cable, int what) {
        try {
            return cable.storm(what);
        } catch (NoSuchElementException e) {
            return Integer.MIN_VALUE;
        }
    }

    private static long eight(String text, int from) {
        long row = 0;
        for (int i = from; i < from + 8; i++) {
            row = row << 8 | (i < text.length() ? text.charAt(i) & 255 : 0);
        }
        return row;
    }
}
