/** What the tests of the document's sentences have in common. */
abstract class Edges {
    static final int MIN = Integer.MIN_VALUE;
    static final int MAX = Integer.MAX_VALUE;
    static final int THROWN = Integer.MIN_VALUE;
    /** Stands behind the calls' own ranges on both sides. */
    static final int[] FAR_OFF = {MIN, MIN + 1, -1000, -2, 1001, 65536, MAX - 1, MAX};

    private final Check check;

    Edges(Check check) {
        this.check = check;
    }

    abstract void run();

    /** The sentence that the answers from here on are due by. */
    void says(String sentence) {
        check.says(sentence);
    }

    void due(String what, long got, long want) {
        check.due(what, got, want);
    }

    void due(String what, boolean got, boolean want) {
        check.due(what, got, want);
    }

    void same(String what, String got, String want) {
        check.due(what + ": " + got + " for " + want, got.equals(want), true);
    }

    static String boat(String name, String kind, int x, int y, int hold, int pull, int trust) {
        return " boat " + name + " " + kind + " at " + x + " " + y + " hold " + hold + " pull " + pull
            + " trust " + trust + " ;";
    }

    /** A plain boat with room, no pull, and trust 1. */
    static String plain(String name, int x, int y) {
        return boat(name, "plain", x, y, 99, 0, 1);
    }

    /** So many plain boats at 0 0. */
    static String boats(int many) {
        StringBuilder text = new StringBuilder();
        for (int b = 0; b < many; b++) {
            text.append(plain("n" + (char) ('a' + b), 0, 0));
        }
        return text.toString();
    }

    static int at(OneCable c, int boat) {
        return 10 * c.boat(boat, 1) + c.boat(boat, 2);
    }

    /** The mark ^ stands before the token that is wrong. */
    void fault(String text, int kind) {
        String tape = text.replace("^", "");
        due(text, Check.tell(new OneCable(), tape), kind + 16 * text.indexOf('^'));
    }

    void good(String text) {
        due(text, Check.tell(new OneCable(), text), 0);
    }

    /** Of the numbers that may stand between the texts both edges are good, and what is beyond is a fault 4. */
    void range(String before, String behind, int least, int most) {
        for (int number : new int[] {least - 1, least, most, most + 1, 9999}) {
            if (number >= 0) {
                boolean fits = number >= least && number <= most;
                String text = before + number + behind;
                due(text, Check.tell(new OneCable(), text), fits ? 0 : 4 + 16 * before.length());
            }
        }
    }

    /** All that can be seen by calls which change nothing, but orders and marks. */
    static String print(OneCable c) {
        StringBuilder all = new StringBuilder();
        for (int what = 0; what < 10; what++) {
            all.append(c.count(what)).append(' ');
        }
        for (int b = 0; b < 7; b++) {
            for (int what = 0; what < 9; what++) {
                all.append(c.boat(b, what)).append(' ');
            }
            for (int what = 0; what < 4; what++) {
                all.append(c.link(b, what)).append(' ');
            }
            for (int way = 0; way < 5; way++) {
                all.append(c.wish(b, way)).append(' ');
            }
        }
        for (int cell = 0; cell < 64; cell++) {
            for (int what = 0; what < 4; what++) {
                all.append(c.cell(cell % 8, cell / 8, what)).append(' ');
            }
        }
        return all.toString();
    }
}
