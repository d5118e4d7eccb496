import java.util.ArrayList;
import java.util.Arrays;
import java.util.HashMap;
import java.util.HashSet;
import java.util.List;
import java.util.Map;
import java.util.Set;
import java.util.function.ToIntFunction;
import java.util.regex.Matcher;
import java.util.regex.Pattern;

/**
 * The document once more, written in another way than OneCable and with the library, to compare the two:
 * slow, by trying all there is wherever that can be done.
 */
final class Plain {
    static final int[][] STEP = {{0, 0}, {0, 1}, {1, 0}, {0, -1}, {-1, 0}};
    static final List<String> KINDS = List.of("plain", "slow", "oar", "old", "keen");
    static final Set<String> RESERVED = Set.of("bay", "rock", "shoal", "fish", "boat", "at", "hold", "pull",
        "trust", "cable", "strong", "swell", "wish", "gales", "loose", "plain", "slow", "oar", "old", "keen",
        "not", "and", "or");

    static final class Fault extends RuntimeException {
        final int number;

        Fault(int kind, int place) {
            super(null, null, false, false);
            number = kind + 16 * place;
        }
    }

    static final class Boat implements Cloneable {
        String kind;
        int homeX, homeY, x, y, hold, pull, trust, caught, order, share;

        int room() {
            return capacity() - caught;
        }

        int capacity() {
            return kind.equals("old") ? hold / 2 : hold;
        }

        @Override
        public Boat clone() {
            try {
                return (Boat) super.clone();
            } catch (CloneNotSupportedException e) {
                throw new AssertionError(e);
            }
        }
    }

    static final class Link implements Cloneable {
        int length = 3, strong = 20;
        boolean torn;

        @Override
        public Link clone() {
            try {
                return (Link) super.clone();
            } catch (CloneNotSupportedException e) {
                throw new AssertionError(e);
            }
        }
    }

    /** All of a bay, told and changed. */
    static final class World {
        int wide = 2, deep = 2, gales = 10, loose = 20, hour;
        Set<List<Integer>> rocks = new HashSet<>();
        Map<List<Integer>, Integer> shoals = new HashMap<>();
        Map<List<Integer>, Integer> fish = new HashMap<>();
        List<Boat> boats = new ArrayList<>();
        List<Link> links = new ArrayList<>();
        ToIntFunction<Map<String, Integer>> swell = f -> 10;
        ToIntFunction<Map<String, Integer>> wish = f -> f.get("fish");

        World copy() {
            World w = new World();
            w.wide = wide;
            w.deep = deep;
            w.gales = gales;
            w.loose = loose;
            w.hour = hour;
            w.rocks = rocks;
            w.shoals = shoals;
            w.fish = new HashMap<>(fish);
            for (Boat b : boats) {
                w.boats.add(b.clone());
            }
            for (Link l : links) {
                w.links.add(l.clone());
            }
            w.swell = swell;
            w.wish = wish;
            return w;
        }

        boolean free(int x, int y) {
            return x >= 0 && y >= 0 && x < wide && y < deep && !rocks.contains(List.of(x, y));
        }

        int swellAt(int x, int y, int hour, int gale) {
            int e = swell.applyAsInt(Map.of("x", x, "y", y, "hour", hour % 24));
            e = e < 0 ? 0 : e > 99 ? 99 : e;
            return Math.min(99, e + gale);
        }

        int force(Boat b, int x, int y, int hour, int gale) {
            return Math.max(0, swellAt(x, y, hour, gale) - b.pull - (b.kind.equals("oar") ? 5 : 0));
        }

        List<List<Integer>> parts() {
            List<List<Integer>> all = new ArrayList<>();
            for (int b = 0; b < boats.size(); b++) {
                if (b == 0 || links.get(b - 1).torn) {
                    all.add(new ArrayList<>());
                }
                all.get(all.size() - 1).add(b);
            }
            return all;
        }

        List<Integer> partOf(int boat) {
            for (List<Integer> part : parts()) {
                if (part.contains(boat)) {
                    return part;
                }
            }
            throw new AssertionError();
        }
    }

    /** The tokens of a text: their place, sort (w, n, s, ? or . for the end) and signs. */
    record Token(int place, char sort, String text) { }

    String tape = "";
    World world = new World();
    World[] marks = new World[4];

    int feed(String signs) {
        for (char c : signs.toCharArray()) {
            if ((c == 10 || c >= 32 && c <= 126) && tape.length() < 1000) {
                tape += c;
            }
        }
        return tape.length();
    }

    int bay() {
        String text = tape;
        tape = "";
        try {
            world = new Reader(text).read();
        } catch (Fault fault) {
            return fault.number;
        }
        marks = new World[4];
        return 0;
    }

    static final class Reader {
        final List<Token> tokens = new ArrayList<>();
        final World w = new World();
        final Set<String> told = new HashSet<>();
        final Set<String> names = new HashSet<>();
        int at;
        int cables;

        Reader(String text) {
            Matcher m = Pattern.compile("([a-z]+)|([0-9]+)|([()<=+\\-*;])|[ \n]|(.)").matcher(text);
            while (m.find()) {
                if (m.group(1) != null) {
                    tokens.add(new Token(m.start(), m.group().length() > 8 ? '?' : 'w', m.group()));
                } else if (m.group(2) != null) {
                    tokens.add(new Token(m.start(), m.group().length() > 4 ? '?' : 'n', m.group()));
                } else if (m.group(3) != null) {
                    tokens.add(new Token(m.start(), 's', m.group()));
                } else if (m.group(4) != null) {
                    tokens.add(new Token(m.start(), '?', m.group()));
                }
            }
            tokens.add(new Token(text.length(), '.', ""));
        }

        Token look() {
            return tokens.get(at);
        }

        boolean sees(String text) {
            return look().sort != '?' && look().sort != '.' && look().text.equals(text);
        }

        Fault fault(int kind) {
            return new Fault(kind, look().place);
        }

        void expect(String text) {
            if (!sees(text)) {
                throw fault(1);
            }
            at++;
        }

        int number(int least, int most) {
            if (look().sort != 'n') {
                throw fault(1);
            }
            int n = Integer.parseInt(look().text);
            if (n < least || n > most) {
                throw fault(4);
            }
            at++;
            return n;
        }

        List<Integer> cell(boolean noShoal, boolean noBoat) {
            int x = number(0, w.wide - 1);
            int y = number(0, w.deep - 1);
            List<Integer> c = List.of(x, y);
            boolean taken = w.rocks.contains(c) || noShoal && w.shoals.containsKey(c)
                || noBoat && w.boats.stream().anyMatch(b -> b.homeX == x && b.homeY == y);
            if (taken) {
                at--;
                throw fault(3);
            }
            return c;
        }

        void once() {
            if (!told.add(look().text)) {
                throw fault(3);
            }
            at++;
        }

        World read() {
            expect("bay");
            w.wide = number(2, 8);
            w.deep = number(2, 8);
            expect(";");
            while (look().sort != '.') {
                if (look().sort != 'w') {
                    throw fault(1);
                }
                line(look().text);
                expect(";");
            }
            for (int b = 0; b + 1 < w.boats.size(); b++) {
                Boat p = w.boats.get(b);
                Boat q = w.boats.get(b + 1);
                w.links.get(b).torn = Math.abs(p.x - q.x) + Math.abs(p.y - q.y) > w.links.get(b).length;
            }
            w.fish = new HashMap<>(w.shoals);
            return w;
        }

        void line(String word) {
            if (word.equals("rock")) {
                at++;
                w.rocks.add(cell(true, true));
            } else if (word.equals("shoal")) {
                at++;
                List<Integer> c = cell(true, false);
                expect("fish");
                w.shoals.put(c, number(1, 99));
            } else if (word.equals("boat")) {
                boat();
            } else if (word.equals("cable")) {
                if (cables >= w.links.size()) {
                    throw fault(5);
                }
                at++;
                Link l = w.links.get(cables++);
                l.length = number(1, 9);
                expect("strong");
                l.strong = number(0, 99);
            } else if (word.equals("swell")) {
                once();
                w.swell = e(Set.of("x", "y", "hour"), 0);
            } else if (word.equals("wish")) {
                once();
                w.wish = e(Set.of("x", "y", "hour", "fish", "rough", "room", "far"), 0);
            } else if (word.equals("gales")) {
                once();
                w.gales = number(0, 50);
            } else if (word.equals("loose")) {
                once();
                w.loose = number(0, 99);
            } else {
                throw fault(1);
            }
        }

        void boat() {
            if (w.boats.size() == 7) {
                throw fault(5);
            }
            at++;
            if (look().sort != 'w' || RESERVED.contains(look().text)) {
                throw fault(1);
            }
            if (!names.add(look().text)) {
                throw fault(3);
            }
            at++;
            Boat b = new Boat();
            if (look().sort != 'w' || !KINDS.contains(look().text)) {
                throw fault(1);
            }
            b.kind = look().text;
            at++;
            expect("at");
            List<Integer> c = cell(false, false);
            b.homeX = b.x = c.get(0);
            b.homeY = b.y = c.get(1);
            expect("hold");
            b.hold = number(0, 99);
            expect("pull");
            b.pull = number(0, 99);
            expect("trust");
            b.trust = number(0, 9);
            if (!w.boats.isEmpty()) {
                w.links.add(new Link());
            }
            w.boats.add(b);
        }

        ToIntFunction<Map<String, Integer>> e(Set<String> facts, int within) {
            ToIntFunction<Map<String, Integer>> left = test(facts, within);
            while (sees("and") || sees("or")) {
                boolean and = sees("and");
                at++;
                ToIntFunction<Map<String, Integer>> l = left;
                ToIntFunction<Map<String, Integer>> r = test(facts, within);
                left = f -> {
                    boolean p = l.applyAsInt(f) != 0;
                    boolean q = r.applyAsInt(f) != 0;
                    return (and ? p && q : p || q) ? 1 : 0;
                };
            }
            return left;
        }

        ToIntFunction<Map<String, Integer>> test(Set<String> facts, int within) {
            ToIntFunction<Map<String, Integer>> l = sum(facts, within);
            if (!sees("<") && !sees("=")) {
                return l;
            }
            boolean less = sees("<");
            at++;
            ToIntFunction<Map<String, Integer>> r = sum(facts, within);
            return f -> (less ? l.applyAsInt(f) < r.applyAsInt(f) : l.applyAsInt(f) == r.applyAsInt(f)) ? 1 : 0;
        }

        ToIntFunction<Map<String, Integer>> sum(Set<String> facts, int within) {
            ToIntFunction<Map<String, Integer>> left = product(facts, within);
            while (sees("+") || sees("-")) {
                int sign = sees("+") ? 1 : -1;
                at++;
                ToIntFunction<Map<String, Integer>> l = left;
                ToIntFunction<Map<String, Integer>> r = product(facts, within);
                left = f -> l.applyAsInt(f) + sign * r.applyAsInt(f);
            }
            return left;
        }

        ToIntFunction<Map<String, Integer>> product(Set<String> facts, int within) {
            ToIntFunction<Map<String, Integer>> left = part(facts, within);
            while (sees("*")) {
                at++;
                ToIntFunction<Map<String, Integer>> l = left;
                ToIntFunction<Map<String, Integer>> r = part(facts, within);
                left = f -> l.applyAsInt(f) * r.applyAsInt(f);
            }
            return left;
        }

        ToIntFunction<Map<String, Integer>> part(Set<String> facts, int within) {
            Token t = look();
            boolean fact = t.sort == 'w' && facts.contains(t.text);
            if (t.sort != 'n' && !fact && !sees("not") && !sees("(")) {
                throw fault(1);
            }
            if (within == 5) {
                throw fault(5);
            }
            at++;
            if (t.sort == 'n') {
                int n = Integer.parseInt(t.text);
                return f -> n;
            }
            if (fact) {
                return f -> f.get(t.text);
            }
            if (t.text.equals("not")) {
                ToIntFunction<Map<String, Integer>> p = part(facts, within + 1);
                return f -> p.applyAsInt(f) == 0 ? 1 : 0;
            }
            ToIntFunction<Map<String, Integer>> p = e(facts, within + 1);
            expect(")");
            return p;
        }
    }

    boolean noBoat(int b) {
        return b < 0 || b >= world.boats.size();
    }

    int boat(int boat, int what) {
        if (noBoat(boat) || what < 0 || what > 8) {
            return -1;
        }
        Boat b = world.boats.get(boat);
        return new int[] {KINDS.indexOf(b.kind), b.x, b.y, b.caught, b.capacity(),
            world.force(b, b.x, b.y, world.hour, 0), world.partOf(boat).get(0), b.trust, b.share}[what];
    }

    /** Strains of the links of a part, from its forces, by the document's words. */
    static int[] strains(int[] forces) {
        int m = forces.length;
        int[] out = new int[Math.max(0, m - 1)];
        for (int k = 1; k < m; k++) {
            int front = Arrays.stream(forces, 0, k).sum();
            out[k - 1] = Math.abs(m * front - k * Arrays.stream(forces).sum());
        }
        return out;
    }

    int[] forces(World w, List<Integer> part, int dx, int dy, int hour, int gale) {
        return part.stream().mapToInt(i -> {
            Boat b = w.boats.get(i);
            return w.force(b, b.x + dx, b.y + dy, hour, gale);
        }).toArray();
    }

    /** The links of a part that would tear. */
    List<Integer> tearing(World w, List<Integer> part, int dx, int dy, int hour, int gale) {
        int[] s = strains(forces(w, part, dx, dy, hour, gale));
        List<Integer> out = new ArrayList<>();
        for (int k = 0; k < s.length; k++) {
            if (s[k] > part.size() * w.links.get(part.get(0) + k).strong) {
                out.add(part.get(0) + k);
            }
        }
        return out;
    }

    int link(int link, int what) {
        if (link < 0 || link >= world.links.size() || what < 0 || what > 3) {
            return -1;
        }
        Link l = world.links.get(link);
        if (what < 3) {
            return what == 0 ? l.length : what == 1 ? l.strong : l.torn ? 1 : 0;
        }
        if (l.torn) {
            return -1;
        }
        List<Integer> part = world.partOf(link);
        return strains(forces(world, part, 0, 0, world.hour, 0))[link - part.get(0)];
    }

    int cell(int x, int y, int what) {
        if (x < 0 || y < 0 || x >= world.wide || y >= world.deep || what < 0 || what > 3) {
            return -1;
        }
        if (what == 0) {
            return world.fish.getOrDefault(List.of(x, y), 0);
        }
        if (what == 1) {
            return world.swellAt(x, y, world.hour, 0);
        }
        if (what == 2) {
            return world.rocks.contains(List.of(x, y)) ? 1 : 0;
        }
        int bits = 0;
        for (int b = 0; b < world.boats.size(); b++) {
            bits += world.boats.get(b).x == x && world.boats.get(b).y == y ? 1 << b : 0;
        }
        return bits;
    }

    boolean order(int boat, int way) {
        if (noBoat(boat) || way < 0 || way > 4) {
            return false;
        }
        world.boats.get(world.partOf(boat).get(0)).order = way;
        return true;
    }

    boolean canGo(World w, List<Integer> part, int dx, int dy, int way, int hour) {
        boolean slow = part.stream().anyMatch(i -> w.boats.get(i).kind.equals("slow"));
        if (way == 0) {
            return true;
        }
        if (slow && hour % 2 != 0) {
            return false;
        }
        return canBe(w, part, dx + STEP[way][0], dy + STEP[way][1]);
    }

    boolean canBe(World w, List<Integer> part, int dx, int dy) {
        return part.stream().allMatch(i -> {
            long x = (long) w.boats.get(i).x + dx;
            long y = (long) w.boats.get(i).y + dy;
            return x >= 0 && y >= 0 && x < 8 && y < 8 && w.free((int) x, (int) y);
        });
    }

    /** CATCH of these boats of a world that is changed by it. */
    int catches(World w, List<Integer> boats) {
        int sum = 0;
        for (int i : boats) {
            Boat b = w.boats.get(i);
            sum += lift(w, b, b.x, b.y, b.kind.equals("keen") ? 5 : 3);
        }
        for (int i : boats) {
            if (!boats.contains(i + 1) || w.links.get(i).torn) {
                continue;
            }
            Boat p = w.boats.get(i);
            Boat q = w.boats.get(i + 1);
            if (p.x == q.x && p.y < q.y) {
                for (int y = p.y + 1; y < q.y; y++) {
                    sum += lift(w, p, p.x, y, 2) + lift(w, q, p.x, y, 2);
                }
            } else if (p.x == q.x) {
                for (int y = p.y - 1; y > q.y; y--) {
                    sum += lift(w, p, p.x, y, 2) + lift(w, q, p.x, y, 2);
                }
            } else if (p.y == q.y && p.x < q.x) {
                for (int x = p.x + 1; x < q.x; x++) {
                    sum += lift(w, p, x, p.y, 2) + lift(w, q, x, p.y, 2);
                }
            } else if (p.y == q.y) {
                for (int x = p.x - 1; x > q.x; x--) {
                    sum += lift(w, p, x, p.y, 2) + lift(w, q, x, p.y, 2);
                }
            }
        }
        return sum;
    }

    int lift(World w, Boat b, int x, int y, int most) {
        int n = 0;
        while (n < most && b.room() > 0 && w.fish.getOrDefault(List.of(x, y), 0) > 0) {
            n++;
            b.caught++;
            w.fish.merge(List.of(x, y), -1, Integer::sum);
        }
        return n;
    }

    int hours(int many) {
        if (many < 1 || many > 100) {
            return -1;
        }
        for (int n = 0; n < many; n++) {
            World w = world;
            List<List<Integer>> parts = w.parts();
            for (List<Integer> part : parts) {
                int way = w.boats.get(part.get(0)).order;
                if (canGo(w, part, 0, 0, way, w.hour)) {
                    part.forEach(i -> {
                        w.boats.get(i).x += STEP[way][0];
                        w.boats.get(i).y += STEP[way][1];
                    });
                }
            }
            for (List<Integer> part : parts) {
                tearing(w, part, 0, 0, w.hour, 0).forEach(l -> w.links.get(l).torn = true);
            }
            catches(w, all(w));
            w.shoals.forEach((c, most) -> w.fish.merge(c, 1, (have, one) -> Math.min(most, have + one)));
            w.hour++;
            w.boats.forEach(b -> b.order = 0);
        }
        return world.hour;
    }

    List<Integer> all(World w) {
        return run(0, w.boats.size() - 1);
    }

    List<Integer> run(int i, int j) {
        List<Integer> out = new ArrayList<>();
        for (int b = i; b <= j; b++) {
            out.add(b);
        }
        return out;
    }

    boolean mend(int link) {
        if (link < 0 || link >= world.links.size() || !world.links.get(link).torn) {
            return false;
        }
        Boat p = world.boats.get(link);
        Boat q = world.boats.get(link + 1);
        boolean near = Math.abs(p.x - q.x) + Math.abs(p.y - q.y) <= world.links.get(link).length;
        world.links.get(link).torn = !near;
        return near;
    }

    int gripOf(List<Integer> part, int dx, int dy) {
        if (!canBe(world, part, dx, dy)) {
            return -1;
        }
        World w = world.copy();
        part.forEach(i -> {
            w.boats.get(i).x += dx;
            w.boats.get(i).y += dy;
        });
        return catches(w, part);
    }

    int grip(int boat, int dx, int dy) {
        return noBoat(boat) ? -1 : gripOf(world.partOf(boat), dx, dy);
    }

    /** Goes backwards from every end there could be: which offsets lead to a good one in so many hours. */
    int soon(int boat, int fish, int what) {
        if (noBoat(boat) || fish < 0 || fish > 999) {
            return -1;
        }
        List<Integer> part = world.partOf(boat);
        boolean[][] good = new boolean[17][17];
        for (int dx = -8; dx <= 8; dx++) {
            for (int dy = -8; dy <= 8; dy++) {
                good[dx + 8][dy + 8] = gripOf(part, dx, dy) >= fish;
            }
        }
        for (int total = 0; total <= 24; total++) {
            boolean[][][] leads = new boolean[total + 1][][];
            leads[total] = good;
            for (int t = total - 1; t >= 0; t--) {
                leads[t] = new boolean[17][17];
                for (int dx = -7; dx <= 7; dx++) {
                    for (int dy = -7; dy <= 7; dy++) {
                        if (canBe(world, part, dx, dy)) {
                            leads[t][dx + 8][dy + 8] = firstWay(part, dx, dy, t, leads[t + 1]) >= 0;
                        }
                    }
                }
            }
            if (leads[0][8][8]) {
                return what == -1 ? total : what < 0 || what >= total ? -1 : walk(part, leads, what);
            }
        }
        return -1;
    }

    private int walk(List<Integer> part, boolean[][][] leads, int what) {
        int dx = 0;
        int dy = 0;
        for (int t = 0; ; t++) {
            int way = firstWay(part, dx, dy, t, leads[t + 1]);
            if (t == what) {
                return way;
            }
            dx += STEP[way][0];
            dy += STEP[way][1];
        }
    }

    private int firstWay(List<Integer> part, int dx, int dy, int t, boolean[][] next) {
        for (int way = 0; way < 5; way++) {
            int nx = dx + STEP[way][0];
            int ny = dy + STEP[way][1];
            if (next[nx + 8][ny + 8] && canGo(world, part, dx, dy, way, world.hour + t)
                && tearing(world, part, nx, ny, world.hour + t, 0).isEmpty()) {
                return way;
            }
        }
        return -1;
    }

    int wish(int boat, int way) {
        if (noBoat(boat) || way < 0 || way > 4 || !canBe(world, all(world), STEP[way][0], STEP[way][1])) {
            return -1;
        }
        Boat b = world.boats.get(boat);
        int x = b.x + STEP[way][0];
        int y = b.y + STEP[way][1];
        int e = world.wish.applyAsInt(Map.of("x", x, "y", y, "hour", world.hour % 24,
            "fish", world.fish.getOrDefault(List.of(x, y), 0), "rough", world.swellAt(x, y, world.hour, 0),
            "room", b.room(), "far", Math.abs(x - b.homeX) + Math.abs(y - b.homeY)));
        return e < 0 ? 0 : e > 99 ? 99 : e;
    }

    int[][] wishes() {
        int[][] out = new int[world.boats.size()][5];
        for (int b = 0; b < out.length; b++) {
            for (int way = 0; way < 5; way++) {
                out[b][way] = wish(b, way);
            }
        }
        return out;
    }

    int choose(int[][] wishes, Set<Integer> barred) {
        int best = -1;
        long bestSum = -1;
        for (int way = 4; way >= 0; way--) {
            if (wishes.length == 0 || wishes[0][way] < 0 || barred.contains(way)) {
                continue;
            }
            long sum = 0;
            for (int b = 0; b < wishes.length; b++) {
                sum += (long) world.boats.get(b).trust * wishes[b][way];
            }
            if (sum >= bestSum) {
                best = way;
                bestSum = sum;
            }
        }
        return best;
    }

    int chosen(boolean nobody) {
        int[][] wishes = wishes();
        Set<Integer> barred = new HashSet<>();
        for (int b = 0; nobody && b < wishes.length; b++) {
            int greatest = Arrays.stream(wishes[b]).max().getAsInt();
            int way = 0;
            while (wishes[b][way] != greatest) {
                way++;
            }
            barred.add(way);
        }
        return choose(wishes, barred);
    }

    /** Tries many rows of told wishes, among them all of 0, 1, 50 and 99. */
    int canGet(int boat) {
        if (noBoat(boat)) {
            return -1;
        }
        int[][] wishes = wishes();
        int[] some = {0, 1, 50, 99};
        int bits = 0;
        for (int row = 0; row < 1024; row++) {
            for (int way = 0; way < 5; way++) {
                if (wishes[boat][way] >= 0) {
                    wishes[boat][way] = some[row >> 2 * way & 3];
                }
            }
            bits |= 1 << choose(wishes, Set.of());
        }
        return bits;
    }

    int worth(int i, int j) {
        return noBoat(i) || noBoat(j) || i > j ? -1 : catches(world.copy(), run(i, j));
    }

    boolean share(int boat, int fish) {
        if (noBoat(boat) || fish < 0 || fish > 999) {
            return false;
        }
        world.boats.get(boat).share = fish;
        return true;
    }

    int leaves() {
        for (int i = 0; i < world.boats.size(); i++) {
            for (int j = i; j < world.boats.size(); j++) {
                if (run(i, j).stream().mapToInt(b -> world.boats.get(b).share).sum() < worth(i, j)) {
                    return 10 * i + j;
                }
            }
        }
        return -1;
    }

    /** Raises sums from 0 until no run has too little: the least that there is. */
    int fair(int boat) {
        if (noBoat(boat)) {
            return -1;
        }
        int n = world.boats.size();
        int[] sums = new int[n + 1];
        boolean changed = true;
        while (changed) {
            changed = false;
            for (int i = 0; i < n; i++) {
                for (int j = i; j < n; j++) {
                    if (sums[j + 1] - sums[i] < worth(i, j)) {
                        sums[j + 1]++;
                        changed = true;
                    }
                }
            }
        }
        return sums[n] == worth(0, n - 1) ? sums[boat + 1] - sums[boat] : -1;
    }

    /** Integer.MIN_VALUE stands for NoSuchElementException. */
    int storm(int what) {
        int n = world.boats.size();
        if (n < 2 || what < -1 || what >= n) {
            return Integer.MIN_VALUE;
        }
        List<List<Integer>> rows = new ArrayList<>();
        rows(new ArrayList<>(), n, rows);
        List<Integer> best = null;
        int least = 0;
        for (List<Integer> row : rows) {
            int[] forces = new int[n];
            for (int i = 0; i < n; i++) {
                forces[i] = world.force(world.boats.get(row.get(i)), world.boats.get(i).x,
                    world.boats.get(i).y, world.hour, 0);
            }
            int[] s = strains(forces);
            for (int i = 0; i < s.length; i++) {
                s[i] -= n * world.links.get(i).strong;
            }
            int greatest = Arrays.stream(s).max().getAsInt();
            if (best == null || greatest < least) {
                best = row;
                least = greatest;
            }
        }
        return what == -1 ? least : best.get(what);
    }

    private static void rows(List<Integer> start, int n, List<List<Integer>> out) {
        if (start.size() == n) {
            out.add(List.copyOf(start));
            return;
        }
        for (int b = 0; b < n; b++) {
            if (!start.contains(b)) {
                start.add(b);
                rows(start, n, out);
                start.remove(start.size() - 1);
            }
        }
    }

    /** Tries one strength behind the other. */
    int join(int x, int y, int pull) {
        int n = world.boats.size();
        if (n < 1 || n > 6 || pull < 0 || pull > 99 || !world.free(x, y)) {
            return -1;
        }
        World w = world.copy();
        Boat b = new Boat();
        b.kind = "plain";
        b.x = x;
        b.y = y;
        b.pull = pull;
        w.boats.add(b);
        w.links.add(new Link());
        for (int strong = 0; strong <= 1000; strong++) {
            w.links.get(n - 1).strong = strong;
            List<Integer> tears = tearing(w, w.partOf(n), 0, 0, w.hour, 0);
            if (tears.stream().anyMatch(l -> l != n - 1)) {
                return -1;
            }
            if (tears.isEmpty()) {
                return strong;
            }
        }
        throw new AssertionError();
    }

    int seasons(int seed, int days, int what) {
        if (seed < 0 || seed > 9999 || days < 1 || days > 99 || what < 0 || what > 1) {
            return -1;
        }
        java.math.BigInteger g = java.math.BigInteger.valueOf(seed);
        int torn = 0;
        int lost = 0;
        for (int day = 0; day < days; day++) {
            g = g.multiply(java.math.BigInteger.valueOf(1103515245)).add(java.math.BigInteger.valueOf(12345))
                .mod(java.math.BigInteger.TWO.pow(31));
            int gale = g.shiftRight(16).intValue() % (world.gales + 1);
            boolean tears = false;
            Set<Integer> away = new HashSet<>();
            for (int hour = 0; hour < 24; hour++) {
                for (List<Integer> part : world.parts()) {
                    tears |= !tearing(world, part, 0, 0, hour, gale).isEmpty();
                }
                for (int b = 0; b < world.boats.size(); b++) {
                    Boat boat = world.boats.get(b);
                    if (world.force(boat, boat.x, boat.y, hour, gale) > world.loose) {
                        away.add(b);
                    }
                }
            }
            torn += tears ? 1 : 0;
            lost += away.size();
        }
        return what == 0 ? torn : lost;
    }

    boolean mark(int mark, boolean back) {
        if (mark < 0 || mark > 3 || back && marks[mark] == null) {
            return false;
        }
        if (back) {
            world = marks[mark].copy();
        } else {
            marks[mark] = world.copy();
        }
        return true;
    }

    int count(int what) {
        if (what < 0 || what > 9) {
            return -1;
        }
        return new int[] {world.wide, world.deep, world.boats.size(), world.hour, world.parts().size(),
            world.fish.values().stream().mapToInt(n -> n).sum(),
            world.boats.stream().mapToInt(b -> b.caught).sum(),
            world.gales, world.loose, tape.length()}[what];
    }
}
