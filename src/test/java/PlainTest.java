import java.util.Random;

/** Runs of random calls: OneCable and Plain must answer alike. */
public final class PlainTest {
    private static final int RUNS = 400;
    private static final int CALLS = 120;
    private static final int TEXTS = 20000;
    private static final String[] WORDS = ("bay rock shoal fish boat at hold pull trust cable strong swell wish "
        + "gales loose plain slow oar old keen not and or x y hour rough room far ann bob cat ( ) < = + - * ; "
        + "0 1 2 7 9 50 51 99 100 9999 12345 abcdefgh abcdefghi . 3x x3").split(" ");

    private static final int[] FAR_OFF = {Integer.MIN_VALUE, Integer.MIN_VALUE + 7, -65536, -256, -8, 32, 256, 65536,
        1 << 30, Integer.MAX_VALUE - 7, Integer.MAX_VALUE};

    private final Random random;
    private final Check check;
    private final OneCable cable = new OneCable();
    private final Plain plain = new Plain();
    private final StringBuilder log = new StringBuilder();

    private PlainTest(long seed, Check check) {
        this.random = new Random(seed);
        this.check = check;
    }

    public static void main(String[] args) {
        Check check = new Check();
        for (int run = 0; run < RUNS && check.isGood(); run++) {
            new PlainTest(run, check).run();
        }
        PlainTest texts = new PlainTest(4711, check);
        for (int i = 0; i < TEXTS && check.isGood(); i++) {
            texts.log.setLength(0);
            texts.tell(texts.spoiled(texts.text()));
        }
        check.end("PlainTest");
    }

    private void run() {
        tell(text());
        for (int call = 0; call < CALLS && check.isGood(); call++) {
            step();
        }
        if (!check.isGood()) {
            System.out.println(log);
        }
    }

    private int below(int n) {
        return random.nextInt(n);
    }

    private int from(int least, int most) {
        return least + random.nextInt(most - least + 1);
    }

    /** Now and then an argument that no call could mean. */
    private int odd(int usual) {
        return below(30) == 0 ? FAR_OFF[below(FAR_OFF.length)] : usual;
    }

    private void same(String call, long got, long want) {
        log.append(call).append(" = ").append(want).append('\n');
        check.due(call, got, want);
    }

    private void tell(String text) {
        Check.feed(cable, text);
        plain.feed(text);
        same("feed " + text, cable.count(9), plain.tape.length());
        int want = plain.bay();
        same("bay() of: " + text, cable.bay(), want);
    }

    private void step() {
        int n = Math.max(1, plain.world.boats.size());
        int b = odd(below(20) == 0 ? from(-2, 8) : below(n));
        switch (below(26)) {
            case 0 -> same("order", cable.order(b, 1) ? 1 : 0, plain.order(b, 1) ? 1 : 0);
            case 1, 2, 3, 4 -> {
                int way = odd(from(-1, 5));
                same("order(" + b + ", " + way + ")", cable.order(b, way) ? 1 : 0, plain.order(b, way) ? 1 : 0);
            }
            case 5, 6, 7 -> same("hours(1)", cable.hours(1), plain.hours(1));
            case 8 -> {
                int many = odd(from(-1, 5));
                same("hours(" + many + ")", cable.hours(many), plain.hours(many));
            }
            case 9 -> {
                int l = odd(from(-1, 6));
                same("mend(" + l + ")", cable.mend(l) ? 1 : 0, plain.mend(l) ? 1 : 0);
            }
            case 10 -> {
                int dx = odd(from(-3, 3));
                int dy = odd(from(-3, 3));
                same("grip(" + b + ", " + dx + ", " + dy + ")", cable.grip(b, dx, dy), plain.grip(b, dx, dy));
            }
            case 11 -> soon(b);
            case 12, 13 -> {
                int way = odd(from(-1, 5));
                same("wish(" + b + ", " + way + ")", cable.wish(b, way), plain.wish(b, way));
            }
            case 14 -> {
                same("chosen(false)", cable.chosen(false), plain.chosen(false));
                same("chosen(true)", cable.chosen(true), plain.chosen(true));
            }
            case 15 -> same("canGet(" + b + ")", cable.canGet(b), plain.canGet(b));
            case 16 -> {
                int j = odd(from(-1, 7));
                same("worth(" + b + ", " + j + ")", cable.worth(b, j), plain.worth(b, j));
            }
            case 17 -> {
                int f = odd(below(5) == 0 ? from(-2, 1001) : below(8));
                same("share(" + b + ", " + f + ")", cable.share(b, f) ? 1 : 0, plain.share(b, f) ? 1 : 0);
            }
            case 18 -> same("leaves()", cable.leaves(), plain.leaves());
            case 19 -> same("fair(" + b + ")", cable.fair(b), plain.fair(b));
            case 20 -> {
                int what = odd(below(12) == 0 ? from(-2, 7) : from(-1, n - 1));
                if (n < 7 || below(8) == 0) {
                    same("storm(" + what + ")", Check.storm(cable, what), plain.storm(what));
                }
            }
            case 21 -> {
                int x = odd(from(-1, 8));
                int y = odd(from(-1, 8));
                int pull = odd(from(-1, 100));
                same("join(" + x + ", " + y + ", " + pull + ")", cable.join(x, y, pull), plain.join(x, y, pull));
            }
            case 22 -> {
                int seed = odd(from(-1, 10000));
                int days = odd(from(-1, 12));
                int what = odd(from(0, 1));
                same("seasons(" + seed + ", " + days + ", " + what + ")",
                    cable.seasons(seed, days, what), plain.seasons(seed, days, what));
            }
            case 23 -> {
                int m = odd(from(-1, 4));
                boolean back = random.nextBoolean();
                same("mark(" + m + ", " + back + ")", cable.mark(m, back) ? 1 : 0, plain.mark(m, back) ? 1 : 0);
            }
            case 24 -> {
                if (below(6) == 0) {
                    same("bay()", cable.bay(), plain.bay());
                    tell(below(2) == 0 ? text() : spoiled(text()));
                } else {
                    feed();
                }
            }
            default -> look();
        }
    }

    /** Bytes of all sorts, which may lie on the tape while other calls come and go. */
    private void feed() {
        StringBuilder signs = new StringBuilder();
        long[] rows = new long[3];
        for (int i = 0; i < 24; i++) {
            int sign = below(3) == 0 ? below(256) : below(3) == 0 ? 32 : 10;
            rows[i / 8] = rows[i / 8] << 8 | sign;
            signs.append((char) sign);
        }
        same("feed", cable.feed(rows[0], rows[1], rows[2]), plain.feed(signs.toString()));
        if (below(3) == 0) {
            same("bay()", cable.bay(), plain.bay());
        }
    }

    private void soon(int b) {
        int fish = odd(below(10) == 0 ? from(-1, 1000) : below(14));
        int hours = plain.soon(b, fish, -1);
        same("soon(" + b + ", " + fish + ", -1)", cable.soon(b, fish, -1), hours);
        for (int i = 0; i < Math.min(3, hours + 1); i++) {
            int what = below(Math.max(1, hours + 1));
            same("soon(" + b + ", " + fish + ", " + what + ")", cable.soon(b, fish, what), plain.soon(b, fish, what));
        }
        same("soon(" + b + ", " + fish + ", -2)", cable.soon(b, fish, -2), -1);
    }

    private void look() {
        for (int b = -1; b <= plain.world.boats.size(); b++) {
            for (int what = -1; what <= 9; what++) {
                same("boat(" + b + ", " + what + ")", cable.boat(b, what), plain.boat(b, what));
                same("link(" + b + ", " + what + ")", cable.link(b, what), plain.link(b, what));
            }
        }
        for (int x = -1; x <= plain.world.wide; x++) {
            for (int y = -1; y <= plain.world.deep; y++) {
                for (int what = -1; what <= 4; what++) {
                    same("cell(" + x + ", " + y + ", " + what + ")", cable.cell(x, y, what), plain.cell(x, y, what));
                }
            }
        }
        for (int what = -1; what <= 10; what++) {
            same("count(" + what + ")", cable.count(what), plain.count(what));
        }
    }

    private String text() {
        int wide = from(2, 8);
        int deep = from(2, 8);
        StringBuilder t = new StringBuilder("bay " + wide + " " + deep + " ;");
        String[] grid = new String[64];
        int boats = below(12) == 0 ? 0 : from(1, 7);
        int links = Math.max(0, boats - 1);
        int x = below(wide);
        int y = below(deep);
        for (int b = 0; b < boats; b++) {
            grid[y * 8 + x] = "boat";
            t.append(" boat ").append((char) ('a' + b)).append("b ").append(Plain.KINDS.get(below(5)))
                .append(" at ").append(x).append(' ').append(y).append(" hold ")
                .append(below(3) == 0 ? below(9) : below(100)).append(" pull ").append(below(15))
                .append(" trust ").append(below(10)).append(" ;");
            x = Math.min(wide - 1, Math.max(0, x + from(-2, 2)));
            y = below(2) == 0 ? y : Math.min(deep - 1, Math.max(0, y + from(-1, 1)));
        }
        for (int l = 0; l < links && below(6) != 0; l++) {
            t.append(" cable ").append(from(1, 6)).append(" strong ").append(below(3) == 0 ? below(4) : below(25)).append(" ;");
        }
        for (int i = below(3) == 0 ? below(4) : from(6, 18); i > 0; i--) {
            int c = below(deep) * 8 + below(wide);
            boolean rock = below(5) == 0;
            if (grid[c] == null || !rock && grid[c].equals("boat")) {
                grid[c] = "taken";
                t.append(rock ? " rock " : " shoal ").append(c % 8).append(' ').append(c / 8);
                t.append(rock ? " ;" : " fish " + (below(2) == 0 ? from(1, 9) : from(1, 99)) + " ;");
            }
        }
        if (below(4) != 0) {
            t.append(" swell ").append(e("x y hour".split(" "), 0)).append(" ;");
        }
        if (below(3) != 0) {
            t.append(" wish ").append(e("x y hour fish rough room far".split(" "), 0)).append(" ;");
        }
        if (below(2) == 0) {
            t.append(" gales ").append(below(51)).append(" ; loose ").append(below(30)).append(" ;");
        }
        return t.length() <= 1000 ? spaced(t.toString()) : text();
    }

    /** The same tokens with other blanks between, and none where none is needed. */
    private String spaced(String text) {
        if (below(3) != 0) {
            return text;
        }
        StringBuilder t = new StringBuilder();
        for (int i = 0; i < text.length(); i++) {
            boolean needed = i > 0 && i + 1 < text.length() && Character.isLetter(text.charAt(i - 1))
                && Character.isLetter(text.charAt(i + 1)) || i > 0 && i + 1 < text.length()
                && Character.isDigit(text.charAt(i - 1)) && Character.isDigit(text.charAt(i + 1));
            if (text.charAt(i) != ' ') {
                t.append(text.charAt(i));
            } else if (needed || below(2) == 0) {
                t.append(below(3) == 0 ? '\n' : ' ').append(below(20) == 0 ? "\n" : "");
            }
        }
        return t.toString();
    }

    private String e(String[] facts, int depth) {
        StringBuilder t = new StringBuilder(test(facts, depth));
        for (int i = below(4) == 0 ? below(3) : 0; i > 0; i--) {
            t.append(below(2) == 0 ? " and " : " or ").append(test(facts, depth));
        }
        return t.toString();
    }

    private String test(String[] facts, int depth) {
        return below(4) != 0 ? sum(facts, depth) : sum(facts, depth) + (below(2) == 0 ? " < " : "=") + sum(facts, depth);
    }

    private String sum(String[] facts, int depth) {
        StringBuilder t = new StringBuilder(part(facts, depth));
        for (int i = below(3); i > 0; i--) {
            t.append(" ").append("+-*".charAt(below(3))).append(' ').append(part(facts, depth));
        }
        return t.toString();
    }

    private String part(String[] facts, int depth) {
        switch (below(depth < 4 ? 8 : 6)) {
            case 0: case 1: case 2: return facts[below(facts.length)];
            case 3: return "" + below(30);
            case 4: return "" + below(10);
            case 5: return below(8) == 0 ? "9999" : "" + below(100);
            case 6: return "not " + part(facts, depth + 1);
            default: return "( " + e(facts, depth + 1) + ")";
        }
    }

    /** Another number in the place of the first one from there on. */
    private void changeNumber(StringBuilder t, int from) {
        int at = from;
        while (at < t.length() && !Character.isDigit(t.charAt(at))) {
            at++;
        }
        int end = at;
        while (end < t.length() && Character.isDigit(t.charAt(end))) {
            end++;
        }
        if (at < end) {
            t.replace(at, end, "" + (below(2) == 0 ? below(9) : below(120)));
        }
    }

    /** One boat is called as another one. */
    private void sameName(StringBuilder t) {
        char one = (char) ('a' + below(7));
        int at = t.indexOf(one + "b");
        if (at >= 0 && t.indexOf("boat") >= 0) {
            t.setCharAt(at, (char) ('a' + below(7)));
        }
    }

    /** The text with a token left out, put in or changed, cut off, or a sign changed. */
    private String spoiled(String text) {
        StringBuilder t = new StringBuilder(text);
        for (int i = from(1, 2); i > 0; i--) {
            int at = below(t.length() + 1);
            while (at < t.length() && t.charAt(at) != ' ') {
                at++;
            }
            int end = Math.min(t.length(), at + 1);
            while (end < t.length() && t.charAt(end) != ' ') {
                end++;
            }
            String word = " " + WORDS[below(WORDS.length)];
            switch (below(10)) {
                case 0 -> t.delete(at, end);
                case 1 -> t.insert(at, word);
                case 2 -> t.setLength(at);
                case 3 -> {
                    if (t.length() > 0) {
                        t.setCharAt(below(t.length()), (char) from(32, 126));
                    }
                }
                case 4 -> t.insert(at, " " + text.substring(text.indexOf(';') + 1));
                case 5 -> t.replace(at, end, word);
                case 6 -> t.insert(at, " not not (");
                case 7 -> sameName(t);
                default -> changeNumber(t, at);
            }
        }
        return t.toString();
    }
}
