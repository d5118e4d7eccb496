import java.math.BigInteger;

/** Sentences on STORM, JOIN, DRAWS and SEASONS, promises 19 to 21. */
final class StormEdges extends Edges {
    StormEdges(Check check) {
        super(check);
    }

    @Override
    void run() {
        refusedStorms();
        storms();
        refusedJoins();
        joins();
        otherLinks();
        draws();
        refusedSeasons();
        seasonsOnTheCable();
        seasonsLoose();
    }

    /** Boats with these pulls at x 0, 1, 2 .., their links so strong. */
    private static OneCable row(String swell, int strong, int... pulls) {
        StringBuilder text = new StringBuilder("bay 8 2 ;");
        for (int b = 0; b < pulls.length; b++) {
            text.append(boat("n" + (char) ('a' + b), "plain", b, 0, 0, pulls[b], 0));
        }
        for (int link = 0; link < pulls.length - 1; link++) {
            text.append("cable 1 strong ").append(strong).append(';');
        }
        return Check.told(text + "swell " + swell + " ;");
    }

    private void refusedStorms() {
        says("STORM, what NONE: the least of the greatest; else which BOAT is on the i-th CELL."
            + " NoSuchElementException: others, fewer than two BOATS.");
        for (int what : new int[] {-2, -1, 0, 1, MIN + 1, MAX}) {
            due("no boat, what " + what, Check.storm(new OneCable(), what), THROWN);
            due("one boat, what " + what, Check.storm(row("9", 0, 0), what), THROWN);
        }
        for (int many = 2; many <= 7; many++) {
            OneCable c = row("9", 1, new int[many]);
            String before = print(c);
            due("the least", Check.storm(c, -1), -many);
            for (int i = 0; i < many; i++) {
                due("all alike: in order", Check.storm(c, i), i);
            }
            for (int what : new int[] {-2, -3, MIN, MIN + 1, many, many + 1, 7, 8, MAX}) {
                due("what " + what + " of " + many, Check.storm(c, what), THROWN);
            }
            same("nothing is done", print(c), before);
        }
    }

    private void order(OneCable c, int least, int... boats) {
        due("the least", Check.storm(c, -1), least);
        for (int i = 0; i < boats.length; i++) {
            due("on cell " + i, Check.storm(c, i), boats[i]);
        }
    }

    private void storms() {
        says("STORM: BOATS laid anew, one on each of their CELLS in order along the cable, LINKS as strong as they are,"
            + " none TORN: the order by which the greatest STRAIN less (how many BOATS times how strong) of any LINK is least;"
            + " of equal ones the first.");
        order(row("x * 10", 0, 0, 10), 0, 0, 1);
        order(row("x * 10", 0, 10, 0), 0, 1, 0);
        order(row("x * 10", 0, 0, 0), 10, 0, 1);
        order(row("x * 10", 5, 4, 4), -4, 0, 1);
        order(row("10", 0, 0, 10, 10), 10, 1, 0, 2);
        order(row("10", 0, 0, 10, 0), 10, 0, 1, 2);
        order(row("10", 0, 10, 0, 10), 10, 0, 1, 2);
        OneCable weak = Check.told("bay 8 2 ;" + boat("a", "plain", 0, 0, 0, 0, 0) + boat("b", "plain", 1, 0, 0, 10, 0)
            + boat("c", "plain", 2, 0, 0, 10, 0) + " cable 1 strong 9 ; cable 1 strong 1 ; swell 10 ;");
        order(weak, 7, 0, 1, 2);
        OneCable weakFirst = Check.told("bay 8 2 ;" + boat("a", "plain", 0, 0, 0, 0, 0) + boat("b", "plain", 1, 0, 0, 10, 0)
            + boat("c", "plain", 2, 0, 0, 10, 0) + " cable 1 strong 1 ; cable 1 strong 9 ; swell 10 ;");
        order(weakFirst, 7, 1, 0, 2);
        OneCable torn = Check.told("bay 8 2 ;" + plain("a", 0, 0) + boat("b", "oar", 7, 0, 0, 5, 0) + " swell ( x = 0 ) * 10 ;");
        due("torn", torn.link(0, 2), 1);
        order(torn, -40, 1, 0);
        OneCable kind = Check.told("bay 8 2 ;" + boat("a", "plain", 0, 0, 0, 0, 0) + boat("b", "oar", 1, 0, 0, 0, 0)
            + " cable 1 strong 0 ; swell ( x = 0 ) * 5 ;");
        order(kind, 0, 1, 0);
        OneCable cells = Check.told("bay 8 8 ;" + boat("a", "plain", 5, 2, 0, 10, 0) + boat("b", "plain", 6, 1, 0, 20, 0)
            + boat("c", "plain", 5, 3, 0, 0, 0) + " cable 9 strong 0 ; cable 9 strong 0 ; swell x + y * 10 ;");
        order(cells, 1, 0, 2, 1);
        OneCable hour = row("hour * ( 1 - x )", 0, 0, 1);
        order(hour, 0, 0, 1);
        hour.hours(1);
        order(hour, 0, 1, 0);
    }

    private void refusedJoins() {
        says("JOIN; NONE: others, no BOAT, 7 are there, another one would TEAR.");
        due("no boat", new OneCable().join(0, 0, 0), -1);
        for (int many = 1; many <= 7; many++) {
            OneCable c = row("9", 0, new int[many]);
            due("behind " + many, c.join(0, 0, 0), many < 7 ? 0 : -1);
        }
        OneCable c = Check.told("bay 3 5 ; rock 1 1 ; shoal 0 1 fish 1 ;" + plain("a", 0, 0));
        String before = print(c);
        for (int x : new int[] {-1, 3, 4, 8, MIN, MAX}) {
            due("x " + x, c.join(x, 0, 0), -1);
        }
        for (int y : new int[] {-1, 5, 6, 8, MIN, MAX}) {
            due("y " + y, c.join(0, y, 0), -1);
        }
        for (int pull : new int[] {-1, -2, 100, 101, MIN, MAX}) {
            due("pull " + pull, c.join(0, 0, pull), -1);
        }
        due("pull 0", c.join(2, 4, 0), 0);
        due("pull 99", c.join(2, 4, 99), 5);
        due("rock", c.join(1, 1, 0), -1);
        due("where a boat is", c.join(0, 0, 0), 0);
        due("where a shoal is", c.join(0, 1, 0), 0);
        due("however far", c.join(2, 4, 10), 5);
        same("nothing is done", print(c), before);
    }

    private void joins() {
        says("JOIN: a plain BOAT of a pull at a CELL without rock behind the last one:"
            + " how strong its LINK must be at least so that it does not TEAR in this HOUR;");
        OneCable one = row("99", 0, 99);
        for (int force = 0; force <= 99; force++) {
            due("0 and " + force, one.join(0, 0, 99 - force), (force + 1) / 2);
        }
        OneCable other = row("99", 0, 0);
        for (int pull = 0; pull <= 99; pull++) {
            due("99 and its pull " + pull, other.join(0, 0, pull), (pull + 1) / 2);
        }
        due("6 boats of 0 and one of 99: 594 of 7", row("99", 99, 99, 99, 99, 99, 99, 99).join(0, 0, 0), 85);
        due("6 boats of 99 and one of 0: 594 of 7", row("99", 99, 0, 0, 0, 0, 0, 0).join(0, 0, 99), 85);
        for (int pull = 0; pull <= 30; pull++) {
            int need = row("30", 99, 30, 30).join(2, 0, pull);
            int force = 30 - pull;
            due("2 * force of 3, force " + force, need, (2 * force + 2) / 3);
            due("so strong it does not tear", tearsWith(need, pull), 0);
            due("one less and it does", need == 0 ? 1 : tearsWith(need - 1, pull), 1);
        }
        OneCable hour = row("hour * 4 * x", 0, 0);
        due("in hour 0", hour.join(1, 0, 0), 0);
        hour.hours(1);
        due("in hour 1", hour.join(1, 0, 0), 2);
        due("in hour 1, farther east", hour.join(2, 0, 0), 4);
        OneCable later = Check.told("bay 2 2 ;" + boat("a", "plain", 0, 0, 0, 4, 0) + boat("b", "plain", 0, 0, 0, 10, 0)
            + " swell hour * 2 ;");
        later.hours(5);
        due("6, 0 and 10 in hour 5: 32 - 18 of 3", later.join(1, 1, 0), 5);
        OneCable north = Check.told("bay 3 8 ;" + plain("a", 0, 1) + plain("b", 1, 1) + " swell x + y * 10 ;");
        due("10, 11 and 51: 102 - 21 of 3", north.join(1, 5, 0), 27);
        OneCable last = Check.told("bay 8 3 ;" + plain("a", 0, 0) + plain("b", 7, 0) + plain("c", 7, 1) + " swell x + y * 10 ;");
        due("7, 17 and 20 of the last part: 40 - 24 of 3", last.join(0, 2, 0), 6);
    }

    private static int tearsWith(int strong, int pull) {
        OneCable c = Check.told("bay 8 2 ;" + boat("a", "plain", 0, 0, 0, 30, 0) + boat("b", "plain", 1, 0, 0, 30, 0)
            + boat("c", "plain", 2, 0, 0, pull, 0) + " cable 1 strong 99 ; cable 1 strong " + strong + " ; swell 30 ;");
        c.hours(1);
        return c.link(1, 2);
    }

    private void otherLinks() {
        says("none if another LINK of its PART would.");
        for (int strong = 0; strong <= 4; strong++) {
            due("force 9 behind two of 0: 9 on the first link, of three times " + strong,
                row("9", strong, 9, 9).join(2, 0, 0), strong < 3 ? -1 : 6);
        }
        OneCable tears = row("9", 0, 0, 9);
        due("it would tear now", tears.link(0, 3), 9);
        due("and with one more: 27 - 9", tears.join(2, 0, 9), -1);
        OneCable relieved = row("9", 0, 9, 0, 9);
        due("the second and first would", relieved.join(3, 0, 0), -1);
        OneCable torn = Check.told("bay 8 2 ;" + boat("a", "plain", 0, 0, 0, 0, 0) + boat("b", "plain", 1, 0, 0, 99, 0)
            + boat("c", "plain", 7, 0, 0, 99, 0) + " cable 1 strong 0 ; cable 1 strong 0 ; swell 9 ;");
        due("a link of another part would", torn.join(7, 0, 99), 0);
        due("its part is one boat and the new one", torn.join(7, 0, 0), 5);
        for (int strong = 3; strong <= 6; strong++) {
            for (int second = 8; second <= 11; second++) {
                OneCable far = Check.told("bay 8 2 ; swell 30 ;" + boat("a", "plain", 0, 0, 0, 30, 0)
                    + boat("b", "plain", 7, 0, 0, 30, 0) + boat("c", "plain", 7, 0, 0, 30, 0) + boat("d", "plain", 7, 0, 0, 30, 0)
                    + " cable 3 strong 20 ; cable 3 strong " + strong + " ; cable 3 strong " + second + " ;");
                due("20 and 40 on the links of the part behind the torn one, of 4 times " + strong + " and " + second,
                    far.join(7, 1, 10), strong < 5 || second < 10 ? -1 : 15);
            }
        }
        OneCable even = row("9", 0, 0, 0);
        due("all alike", even.join(5, 0, 0), 0);
        due("a pull more", even.join(5, 0, 1), -1);
    }

    private static int[] drawn(int seed, int gales, int days) {
        int[] row = new int[days];
        BigInteger g = BigInteger.valueOf(seed);
        for (int day = 0; day < days; day++) {
            g = g.multiply(BigInteger.valueOf(1103515245)).add(BigInteger.valueOf(12345)).mod(BigInteger.ONE.shiftLeft(31));
            row[day] = g.shiftRight(16).mod(BigInteger.valueOf(gales + 1)).intValue();
        }
        return row;
    }

    private static int above(int[] draws, int edge) {
        int many = 0;
        for (int draw : draws) {
            many += draw > edge ? 1 : 0;
        }
        return many;
    }

    private void draws() {
        says("A DRAW below m: g becomes (g * 1103515245 + 12345) modulo 2147483648 (g is the SEED at first);"
            + " it is g / 65536, cut, modulo m.");
        int[] seedOne = {8, 46, 15, 22, 43};
        for (int day = 0; day < 5; day++) {
            due("of seed 1, below 51", drawn(1, 50, 5)[day], seedOne[day]);
        }
        for (int gales : new int[] {0, 1, 2, 7, 10, 49, 50}) {
            for (int seed : new int[] {0, 1, 2, 77, 4711, 9998, 9999}) {
                for (int loose : new int[] {0, 1, 5, gales - 1, gales}) {
                    looseDays(seed, gales, Math.max(0, loose));
                }
            }
        }
    }

    private void looseDays(int seed, int gales, int loose) {
        OneCable c = Check.told("bay 2 2 ;" + boats(1) + " swell 0 ; gales " + gales + " ; loose " + loose + " ;");
        for (int days : new int[] {1, 2, 3, 98, 99}) {
            due("seed " + seed + ", gales " + gales + ", loose " + loose + ", days " + days, c.seasons(seed, days, 1),
                above(drawn(seed, gales, days), loose));
        }
    }

    private void refusedSeasons() {
        says("SEASONS by a SEED (0 to 9999), what 0: days on the cable, 1: BOATS loose; NONE: others.");
        OneCable c = Check.told("bay 2 2 ;" + boats(2) + " swell 50 ; loose 0 ; gales 0 ;");
        String before = print(c);
        for (int seed : new int[] {-1, -2, 10000, 10001, MIN, MAX}) {
            due("seed " + seed, c.seasons(seed, 1, 1), -1);
        }
        for (int days : new int[] {0, -1, 100, 101, MIN, MAX}) {
            due("days " + days, c.seasons(1, days, 1), -1);
        }
        for (int what : new int[] {-1, -2, 2, 3, MIN, MAX}) {
            due("what " + what, c.seasons(1, 1, what), -1);
        }
        due("seed 0, 99 days", c.seasons(0, 99, 1), 198);
        due("seed 9999, 1 day", c.seasons(9999, 1, 1), 2);
        due("on the cable", c.seasons(9999, 99, 0), 0);
        due("no boat at all", new OneCable().seasons(9999, 99, 1) + new OneCable().seasons(0, 1, 0), 0);
        same("nothing is done", print(c), before);
    }

    private void seasonsOnTheCable() {
        says("SEASONS of days (1 to 99): each day a DRAW below gales and 1 is added to all SWELL (99 at most) in HOURS 0 to 23"
            + " where all BOATS are now, LINKS as they are now: on how many days some LINK would TEAR in one of these,");
        for (int strong : new int[] {0, 1, 7, 24, 25, 26}) {
            OneCable c = Check.told("bay 2 2 ;" + boat("a", "plain", 0, 0, 0, 0, 0) + boat("b", "plain", 0, 0, 0, 99, 0)
                + " cable 1 strong " + strong + " ; gales 50 ; swell 0 ;");
            due("above 2 * " + strong, c.seasons(1, 99, 0), above(drawn(1, 50, 99), 2 * strong));
            due("at one day", c.seasons(1, 1, 0), strong <= 3 ? 1 : 0);
        }
        OneCable most = Check.told("bay 2 2 ;" + boat("a", "plain", 0, 0, 0, 0, 0) + boat("b", "plain", 0, 0, 0, 99, 0)
            + " cable 1 strong 50 ; gales 50 ; swell 90 ;");
        due("99 at most, of 100", most.seasons(1, 99, 0), 0);
        for (int hour : new int[] {0, 1, 22, 23}) {
            OneCable c = Check.told("bay 2 2 ;" + plain("a", 0, 0) + plain("b", 1, 0)
                + " cable 1 strong 0 ; gales 0 ; swell ( hour = " + hour + " ) * x ;");
            due("in hour " + hour, c.seasons(5, 99, 0), 99);
            c.hours(1);
            due("links as they are now: torn by hour 0 alone", c.seasons(5, 99, 0), hour == 0 ? 0 : 99);
        }
        OneCable many = row("x * x", 0, 0, 0, 0, 0, 0, 0, 0);
        due("six links, one day", many.seasons(0, 1, 0), 1);
        many.hours(1);
        due("all torn", many.count(4), 7);
        due("none left to tear", many.seasons(0, 99, 0), 0);
        OneCable north = Check.told("bay 8 8 ;" + plain("a", 0, 0) + plain("b", 0, 0) + plain("c", 7, 2) + plain("d", 7, 3)
            + " cable 1 strong 0 ; cable 1 strong 0 ; cable 1 strong 5 ; gales 0 ; swell y * y * 2 ;");
        due("10 of 5 by two in the last part", north.seasons(1, 9, 0), 0);
        Check.tell(north, "bay 8 8 ;" + plain("a", 0, 0) + plain("b", 0, 0) + plain("c", 7, 2) + plain("d", 7, 3)
            + " cable 1 strong 0 ; cable 1 strong 0 ; cable 1 strong 4 ; gales 0 ; swell y * y * 2 ;");
        due("10 of 4 by two", north.seasons(1, 9, 0), 9);
        OneCable whole = Check.told("bay 8 2 ;" + plain("a", 0, 0) + plain("b", 1, 0) + plain("c", 2, 0)
            + " cable 1 strong 3 ; cable 1 strong 3 ; gales 0 ; swell 9 * ( x = 1 ) ;");
        due("9 of 3 by three, though not by two", whole.seasons(1, 99, 0), 0);
        OneCable goes = Check.told("bay 4 2 ;" + plain("a", 0, 0) + plain("b", 1, 0)
            + " cable 1 strong 4 ; gales 0 ; swell ( x = 2 ) * ( hour = 9 ) * 9 ;");
        due("where they are: calm", goes.seasons(3, 9, 0), 0);
        goes.order(0, 2);
        goes.hours(1);
        due("where they are now", goes.seasons(3, 9, 0), 9);
    }

    private void seasonsLoose() {
        says("and how many BOATS, if they were loose, would have a FORCE above loose in one of these (each once a day).");
        OneCable seven = Check.told("bay 2 2 ;" + boats(7) + " swell 50 ; gales 0 ; loose 49 ;");
        due("seven, 99 days, in 24 hours each", seven.seasons(0, 99, 1), 693);
        OneCable even = Check.told("bay 2 2 ;" + boats(7) + " swell 50 ; gales 0 ; loose 50 ;");
        due("50 is not above 50", even.seasons(0, 99, 1), 0);
        for (int hour : new int[] {0, 1, 22, 23}) {
            OneCable c = Check.told("bay 2 2 ;" + boats(3) + " swell ( hour = " + hour + " ) ; gales 0 ; loose 0 ;");
            due("in hour " + hour, c.seasons(0, 2, 1), 6);
        }
        OneCable most = Check.told("bay 2 2 ;" + boat("a", "plain", 0, 0, 0, 0, 0) + boat("b", "plain", 0, 0, 0, 1, 0)
            + " swell 90 ; gales 50 ; loose 98 ;");
        due("99 at most: 99 is above 98, 98 is not", most.seasons(1, 99, 1), above(drawn(1, 50, 99), 8));
        OneCable deep = Check.told("bay 2 2 ;" + boats(1) + " swell 0 - 9 ; gales 50 ; loose 0 ;");
        due("added to the swell, which is 0 at least", deep.seasons(1, 99, 1), above(drawn(1, 50, 99), 0));
        OneCable oar = Check.told("bay 2 2 ;" + boat("a", "oar", 0, 0, 0, 3, 0) + " swell 0 ; gales 50 ; loose 2 ;");
        due("an oar one's pull is 8", oar.seasons(1, 99, 1), above(drawn(1, 50, 99), 10));
        OneCable where = Check.told("bay 8 8 ;" + plain("a", 5, 2) + plain("b", 3, 4) + " swell x + y * 10 ; gales 0 ;"
            + " loose 24 ;");
        due("25 and 43, both above 24", where.seasons(1, 1, 1), 2);
        Check.tell(where, "bay 8 8 ;" + plain("a", 5, 2) + plain("b", 3, 4) + " swell x + y * 10 ; gales 0 ; loose 25 ;");
        due("one of them above 25", where.seasons(1, 1, 1), 1);
        Check.tell(where, "bay 8 8 ;" + plain("a", 5, 2) + plain("b", 3, 4) + " swell x + y * 10 ; gales 0 ; loose 43 ;");
        due("none above 43", where.seasons(1, 1, 1), 0);
        OneCable none = Check.told("bay 2 2 ;" + boats(1) + " swell 99 ; gales 50 ; loose 99 ;");
        due("none is above 99", none.seasons(1, 99, 1), 0);
        OneCable later = Check.told("bay 2 2 ;" + boats(2) + " swell hour ; gales 9 ; loose 27 ;");
        int before = later.seasons(12, 99, 1);
        due("23 + a draw above 27", before, 2 * above(drawn(12, 9, 99), 4));
        later.hours(7);
        due("the hour of now is no matter", later.seasons(12, 99, 1), before);
    }
}
