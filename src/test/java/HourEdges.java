/** Sentences on FORCE, STRAIN, ORDERS, an HOUR, CATCH and MEND. */
final class HourEdges extends Edges {
    HourEdges(Check check) {
        super(check);
    }

    @Override
    void run() {
        force();
        parts();
        strain();
        tears();
        orders();
        border();
        rocksInTheWay();
        slowOnes();
        anHour();
        catchOfBoats();
        catchOfLinks();
        whoComesFirst();
        behindIt();
        mending();
    }

    private static int forceOf(String kind, int pull, String swell) {
        return Check.told("bay 2 2 ;" + boat("a", kind, 1, 1, 0, pull, 0) + " swell " + swell + " ;").boat(0, 5);
    }

    private void force() {
        says("FORCE of a BOAT: that at its CELL less its pull (an oar one's is 5 more), 0 at least.");
        for (String kind : new String[] {"plain", "slow", "old", "keen"}) {
            due(kind + " above its pull", forceOf(kind, 9, "10"), 1);
            due(kind + " at its pull", forceOf(kind, 10, "10"), 0);
            due(kind + " below its pull", forceOf(kind, 11, "10"), 0);
            due(kind + " without pull", forceOf(kind, 0, "99"), 99);
            due(kind + " above 99", forceOf(kind, 1, "9999"), 98);
            due(kind + " below 0", forceOf(kind, 0, "0 - 9"), 0);
        }
        due("oar above", forceOf("oar", 4, "10"), 1);
        due("oar at", forceOf("oar", 5, "10"), 0);
        due("oar below", forceOf("oar", 6, "10"), 0);
        due("oar without pull", forceOf("oar", 0, "99"), 94);
        due("oar with 99", forceOf("oar", 99, "99"), 0);
        due("at its cell: x 5, y 2", Check.told("bay 8 8 ;" + plain("a", 5, 2) + " swell x * 10 + y ;").boat(0, 5), 52);
    }

    private void parts() {
        says("PARTS: BOATS that hang together by LINKS that are not TORN.");
        due("none", Check.told("bay 2 2 ;").count(4), 0);
        due("one boat", Check.told("bay 2 2 ;" + boats(1)).count(4), 1);
        due("seven on one", Check.told("bay 2 2 ;" + boats(7)).count(4), 1);
        StringBuilder text = new StringBuilder("bay 8 2 ;");
        for (int b = 0; b < 7; b++) {
            text.append(plain("n" + (char) ('a' + b), b % 2 * 7, 0));
        }
        OneCable c = Check.told(text.toString());
        due("seven alone", c.count(4), 7);
        for (int b = 0; b < 7; b++) {
            due("first of " + b, c.boat(b, 6), b);
        }
        OneCable d = Check.told("bay 8 2 ;" + plain("a", 0, 0) + plain("b", 0, 0) + plain("c", 7, 0) + plain("d", 7, 0)
            + plain("e", 7, 1) + plain("f", 0, 0));
        int[] first = {0, 0, 2, 2, 2, 5};
        due("two, three and one", d.count(4), 3);
        for (int b = 0; b < first.length; b++) {
            due("first of " + b, d.boat(b, 6), first[b]);
        }
    }

    /** Boats in a row from 0 0 on with these forces, their links 9 long and so strong. */
    private static OneCable row(int strong, int... forces) {
        StringBuilder text = new StringBuilder("bay 8 2 ;");
        for (int b = 0; b < forces.length; b++) {
            text.append(boat("n" + (char) ('a' + b), "plain", b, 0, 0, 99 - forces[b], 0));
        }
        for (int link = 0; link < forces.length - 1; link++) {
            text.append("cable 9 strong ").append(strong).append(';');
        }
        return Check.told(text + "swell 99 ;");
    }

    private void strains(OneCable c, int... want) {
        for (int link = 0; link < want.length; link++) {
            due("strain of link " + link, c.link(link, 3), want[link]);
        }
    }

    private void strain() {
        says("STRAIN of a LINK in a PART of m BOATS, the k-th from its first one:"
            + " m times the FORCES of its first k BOATS less k times those of all, without sign;");
        strains(row(99, 0, 0), 0);
        strains(row(99, 7, 0), 7);
        strains(row(99, 0, 7), 7);
        strains(row(99, 7, 7), 0);
        strains(row(99, 99, 0), 99);
        strains(row(99, 6, 0, 0), 12, 6);
        strains(row(99, 0, 6, 0), 6, 6);
        strains(row(99, 0, 0, 6), 6, 12);
        strains(row(99, 99, 0, 0, 0, 0, 0, 0), 594, 495, 396, 297, 198, 99);
        strains(row(99, 99, 99, 99, 0, 0, 0, 99), 297, 594, 891, 495, 99, 297);
        OneCable c = Check.told("bay 8 2 ;" + boat("a", "plain", 0, 0, 0, 0, 0) + boat("b", "plain", 7, 0, 0, 90, 0)
            + boat("c", "plain", 7, 0, 0, 99, 0) + boat("d", "plain", 7, 0, 0, 99, 0) + boat("e", "plain", 0, 0, 0, 0, 0)
            + " swell 99 ;");
        due("in a part between torn ones: 3 * 9 - 9", c.link(1, 3), 18);
        due("the second from its first one: 3 * 9 - 2 * 9", c.link(2, 3), 9);
        due("torn before it", c.link(0, 3), -1);
        due("torn behind it", c.link(3, 3), -1);
        OneCable d = Check.told("bay 8 8 ;" + plain("a", 0, 1) + plain("b", 0, 3) + plain("c", 7, 2) + plain("d", 7, 3)
            + " swell x * x + y * y ;");
        due("by x and y: 1 and 9", d.link(0, 3), 8);
        due("behind another part, 53 and 58", d.link(2, 3), 5);
        due("the first part again", d.link(0, 3), 8);
    }

    private void tears() {
        says("it TEARS if that is more than m times how strong it is.");
        int[][] forceStrongTorn = {{0, 0, 0}, {1, 0, 1}, {2, 1, 0}, {3, 1, 1}, {98, 49, 0}, {99, 49, 1}, {99, 50, 0},
            {99, 99, 0}};
        for (int[] row : forceStrongTorn) {
            OneCable c = row(row[1], row[0], 0);
            OneCable d = row(row[1], 0, row[0]);
            due("whole before the hour", c.link(0, 2) + d.link(0, 2), 0);
            c.hours(1);
            d.hours(1);
            due(row[0] + " first on " + row[1], c.link(0, 2), row[2]);
            due(row[0] + " last on " + row[1], d.link(0, 2), row[2]);
        }
        OneCable three = row(4, 6, 0, 0);
        three.hours(1);
        due("12 on three times 4", three.link(0, 2), 0);
        three = row(3, 6, 0, 0);
        three.hours(1);
        due("12 on three times 3, but 6 is less", three.link(0, 2) * 10 + three.link(1, 2), 10);
        for (int strong = 0; strong <= 3; strong++) {
            OneCable last = Check.told("bay 8 2 ;" + boat("a", "plain", 0, 0, 0, 0, 0) + boat("b", "plain", 0, 0, 0, 0, 0)
                + boat("c", "plain", 7, 0, 0, 94, 0) + boat("d", "plain", 7, 0, 0, 99, 0) + " cable 1 strong 0 ;"
                + " cable 1 strong 0 ; cable 1 strong " + strong + " ; swell 99 ;");
            last.hours(1);
            due("5 on two times " + strong + " in the last part", last.link(2, 2), strong < 3 ? 1 : 0);
            due("0 on 0 in the first part", last.link(0, 2), 0);
        }
        OneCable seven = row(84, 99, 0, 0, 0, 0, 0, 0);
        seven.hours(1);
        due("594 on seven times 84, 588", seven.count(4), 2);
        seven = row(85, 99, 0, 0, 0, 0, 0, 0);
        seven.hours(1);
        due("594 on seven times 85, 595", seven.count(4), 1);
    }

    private void orders() {
        says("ORDERS: for the PART of a BOAT, kept with its first BOAT (the last one told counts;"
            + " behind a MEND a PART goes by its first BOAT's):");
        OneCable c = Check.told("bay 8 8 ;" + plain("a", 3, 3) + plain("b", 3, 4) + plain("c", 3, 5));
        c.order(0, 2);
        c.order(2, 1);
        c.order(1, 3);
        c.hours(1);
        due("the last one told, to any of them", at(c, 0) * 100 + at(c, 2), 3234);
        c.order(1, 3);
        c.order(2, 0);
        c.hours(1);
        due("to stay counts, too", at(c, 0), 32);
        OneCable d = Check.told("bay 8 8 ;" + plain("a", 0, 0) + plain("b", 4, 0) + plain("c", 4, 1) + " cable 3 strong 99 ;");
        d.order(1, 4);
        d.hours(1);
        d.order(0, 1);
        d.order(2, 2);
        due("mended", d.mend(0), true);
        d.hours(1);
        due("all by boat 0's", at(d, 0) * 10000 + at(d, 1) * 100 + at(d, 2), 13132);
        OneCable e = Check.told("bay 8 8 ;" + plain("a", 0, 0) + plain("b", 4, 0) + " cable 3 strong 99 ;");
        e.order(1, 4);
        e.hours(1);
        e.order(1, 1);
        e.mend(0);
        e.hours(1);
        due("boat 0 has none", at(e, 0) * 100 + at(e, 1), 30);
        e.order(1, 1);
        e.hours(1);
        due("an order behind the mend", at(e, 0) * 100 + at(e, 1), 131);
        says("0 stay, 1 north (y more), 2 east (x more), 3 south, 4 west:");
        int[] to = {33, 34, 43, 32, 23};
        for (int way = 0; way < 5; way++) {
            OneCable f = Check.told("bay 8 8 ;" + plain("a", 3, 3));
            f.order(0, way);
            f.hours(1);
            due("way " + way, at(f, 0), to[way]);
        }
    }

    private void border() {
        says("it goes one CELL, all its BOATS, if each one's next CELL is in the bay without rock,"
            + " and no slow one is in it in an odd HOUR; else it stays.");
        int[][] sizes = {{2, 2}, {8, 8}, {2, 8}, {8, 2}};
        for (int[] size : sizes) {
            for (int corner = 0; corner < 4; corner++) {
                for (int way = 0; way < 5; way++) {
                    int x = corner % 2 * (size[0] - 1);
                    int y = corner / 2 * (size[1] - 1);
                    OneCable c = Check.told("bay " + size[0] + " " + size[1] + ";" + plain("a", x, y));
                    c.order(0, way);
                    c.hours(1);
                    int wantX = Math.max(0, Math.min(size[0] - 1, x + (way == 2 ? 1 : way == 4 ? -1 : 0)));
                    int wantY = Math.max(0, Math.min(size[1] - 1, y + (way == 1 ? 1 : way == 3 ? -1 : 0)));
                    due("from " + x + " " + y + " by " + way, at(c, 0), 10 * wantX + wantY);
                }
            }
        }
        OneCable d = Check.told("bay 3 3 ;" + plain("a", 1, 1) + plain("b", 2, 1) + plain("c", 1, 1));
        d.order(0, 2);
        d.hours(1);
        due("one at the border holds all", at(d, 0) * 10000 + at(d, 1) * 100 + at(d, 2), 112111);
        d.order(0, 4);
        d.hours(1);
        due("the other way all go", at(d, 0) * 10000 + at(d, 1) * 100 + at(d, 2), 11101);
    }

    private void rocksInTheWay() {
        says("it goes one CELL, all its BOATS, if each one's next CELL is in the bay without rock,"
            + " and no slow one is in it in an odd HOUR; else it stays.");
        for (int rock = 0; rock < 4; rock++) {
            OneCable c = Check.told("bay 8 3 ;" + plain("a", 0, 0) + plain("b", 1, 0) + plain("c", 2, 0)
                + " rock " + rock + " 1 ;");
            c.order(1, 1);
            c.hours(1);
            due("rock " + rock, at(c, 0), rock < 3 ? 0 : 1);
        }
        OneCable c = Check.told("bay 8 3 ;" + plain("a", 0, 0) + plain("b", 1, 0) + plain("c", 7, 0) + plain("d", 6, 1));
        c.order(0, 2);
        c.order(2, 4);
        c.hours(1);
        due("boats are in nobody's way", at(c, 0) * 100 + at(c, 2), 1060);
        OneCable d = Check.told("bay 8 3 ;" + plain("a", 3, 0) + plain("b", 3, 1) + plain("c", 7, 0) + " rock 4 1 ;");
        d.order(0, 2);
        d.order(2, 4);
        d.hours(1);
        due("what holds one part does not hold another", at(d, 0) * 100 + at(d, 2), 3060);
    }

    private void slowOnes() {
        says("it goes one CELL, all its BOATS, if each one's next CELL is in the bay without rock,"
            + " and no slow one is in it in an odd HOUR; else it stays.");
        OneCable c = Check.told("bay 8 8 ;" + plain("a", 0, 0) + boat("b", "slow", 1, 0, 0, 0, 0) + plain("c", 7, 7)
            + plain("d", 7, 6));
        for (int hour = 0; hour < 52; hour++) {
            int from = c.boat(0, 2);
            int fromC = c.boat(2, 1);
            int way = from == 0 ? 1 : 3;
            int wayC = fromC == 7 ? 4 : 2;
            c.order(0, way);
            c.order(3, wayC);
            c.hours(1);
            int step = way == 1 ? 1 : -1;
            due("hour " + hour, c.boat(0, 2), hour % 2 == 0 ? from + step : from);
            due("without a slow one, hour " + hour, c.boat(2, 1), fromC == 7 ? 6 : 7);
        }
        OneCable d = Check.told("bay 8 8 ;" + plain("a", 0, 0) + plain("b", 1, 0) + boat("c", "slow", 2, 0, 0, 0, 0));
        d.hours(1);
        d.order(0, 1);
        d.hours(1);
        due("a slow one at the end", at(d, 0), 0);
        OneCable e = Check.told("bay 8 8 ;" + boat("a", "slow", 0, 0, 0, 0, 0) + plain("b", 1, 0));
        e.hours(1);
        e.order(0, 1);
        e.hours(1);
        due("a slow one first", at(e, 1), 10);
        for (String kind : new String[] {"plain", "oar", "old", "keen"}) {
            OneCable f = Check.told("bay 8 8 ;" + boat("a", kind, 0, 0, 0, 0, 0));
            f.hours(1);
            f.order(0, 1);
            f.hours(1);
            due(kind, at(f, 0), 1);
        }
    }

    private void anHour() {
        says("An HOUR: all PARTS go by their ORDERS; all LINKS TEAR whose STRAIN (in this HOUR, by PARTS as they were)"
            + " is too much;");
        OneCable c = row(5, 30, 0, 0);
        c.hours(1);
        due("60 and 30 of 15: both, as one part", c.link(0, 2) * 10 + c.link(1, 2), 11);
        c = row(15, 30, 0, 0);
        c.hours(1);
        due("60 of 45, 30 of 45: one", c.link(0, 2) * 10 + c.link(1, 2), 10);
        c.hours(1);
        due("torn stays torn, whole stays whole", c.link(0, 2) * 10 + c.link(1, 2), 10);
        OneCable late = row(3, 0, 9, 0);
        due("in one part 9 of 9", late.link(0, 3), 9);
        late.hours(1);
        due("no tear", late.count(4), 1);
        OneCable goes = Check.told("bay 4 2 ;" + plain("a", 0, 0) + plain("b", 1, 0)
            + " cable 1 strong 4 ; swell ( x = 2 ) * 9 ;");
        goes.hours(1);
        due("calm where it was", goes.link(0, 2), 0);
        goes.order(0, 2);
        goes.hours(1);
        due("9 of 8 where it went", goes.link(0, 2), 1);
        OneCable flees = Check.told("bay 4 2 ;" + plain("a", 0, 0) + plain("b", 1, 0)
            + " cable 1 strong 4 ; swell ( x = 0 ) * 9 ;");
        flees.order(0, 2);
        flees.hours(1);
        due("out of it in time", flees.link(0, 2), 0);
        OneCable hour = Check.told("bay 4 2 ;" + plain("a", 0, 0) + plain("b", 1, 0)
            + " cable 1 strong 4 ; swell ( hour = 23 ) * x * 9 ;");
        hour.hours(23);
        due("hours 0 to 22", hour.link(0, 2), 0);
        hour.hours(1);
        due("hour 23", hour.link(0, 2), 1);
    }

    /** What a boat of the kind and hold catches of so many fish. */
    private static int catches(String kind, int hold, int fish) {
        OneCable c = Check.told("bay 2 2 ; shoal 0 0 fish " + fish + ";" + boat("a", kind, 0, 0, hold, 0, 0));
        c.hours(1);
        return c.boat(0, 3);
    }

    private void catchOfBoats() {
        says("then CATCH: BOAT by BOAT, 3 fish at its CELL (a keen one 5), as far as they go and its hold has room"
            + " (an old one's holds half, cut);");
        for (int fish = 1; fish <= 7; fish++) {
            for (String kind : new String[] {"plain", "slow", "oar", "old"}) {
                due(kind + " of " + fish, catches(kind, 99, fish), Math.min(fish, 3));
            }
            due("keen of " + fish, catches("keen", 99, fish), Math.min(fish, 5));
        }
        for (int hold = 0; hold <= 13; hold++) {
            due("plain with " + hold, catches("plain", hold, 99), Math.min(hold, 3));
            due("keen with " + hold, catches("keen", hold, 99), Math.min(hold, 5));
            due("old with " + hold, catches("old", hold, 99), Math.min(hold / 2, 3));
        }
        int[][] holds = {{0, 0}, {1, 0}, {2, 1}, {3, 1}, {98, 49}, {99, 49}};
        for (int[] hold : holds) {
            OneCable c = Check.told("bay 2 2 ; shoal 0 0 fish 99 ;" + boat("a", "old", 0, 0, hold[0], 0, 0));
            due("an old one's hold of " + hold[0], c.boat(0, 4), hold[1]);
            c.hours(100);
            due("is full then", c.boat(0, 3), hold[1]);
        }
        OneCable d = Check.told("bay 2 2 ; shoal 0 0 fish 99 ;" + boat("a", "plain", 0, 0, 7, 0, 0));
        int[] caught = {3, 6, 7, 7};
        for (int want : caught) {
            d.hours(1);
            due("of 7 room", d.boat(0, 3), want);
        }
        due("the fish that it can't take stay: 92, and grow", d.cell(0, 0, 0), 96);
    }

    private void whoComesFirst() {
        says("then CATCH: BOAT by BOAT, 3 fish at its CELL (a keen one 5), as far as they go and its hold has room"
            + " (an old one's holds half, cut);");
        OneCable c = Check.told("bay 2 2 ; shoal 0 0 fish 4 ;" + plain("a", 0, 0) + plain("b", 0, 0) + plain("c", 0, 0));
        c.hours(1);
        due("4 for three", c.boat(0, 3) * 100 + c.boat(1, 3) * 10 + c.boat(2, 3), 310);
        OneCable d = Check.told("bay 2 2 ; shoal 0 0 fish 6 ;" + plain("a", 0, 0) + boat("b", "keen", 0, 0, 99, 0, 0));
        d.hours(1);
        due("6, the keen one behind", d.boat(0, 3) * 10 + d.boat(1, 3), 33);
        OneCable e = Check.told("bay 4 2 ; shoal 1 0 fish 4 ;" + plain("a", 0, 0) + plain("b", 2, 0) + plain("c", 1, 0));
        e.hours(1);
        due("all boats before all links", e.boat(0, 3) * 100 + e.boat(1, 3) * 10 + e.boat(2, 3), 103);
        OneCable f = Check.told("bay 4 2 ; shoal 1 0 fish 7 ;" + plain("a", 0, 0) + plain("b", 2, 0) + plain("c", 0, 0));
        f.hours(1);
        due("link by link: 2, 2, then 2, 1", f.boat(0, 3) * 100 + f.boat(1, 3) * 10 + f.boat(2, 3), 241);
        OneCable g = Check.told("bay 4 2 ; shoal 1 0 fish 9 ;" + plain("a", 0, 0)
            + boat("b", "plain", 2, 0, 99, 99, 0) + " cable 2 strong 0 ;");
        g.hours(1);
        due("a link that tears in the hour sweeps nothing in it", g.count(6) * 10 + g.link(0, 2), 1);
    }

    /** What two plain boats at these cells, so much room each, sweep: 100 for each fish of the first, 1 of the other. */
    private static int sweeps(int[] a, int[] b, int roomA, int roomB, String shoals) {
        OneCable c = Check.told("bay 8 8 ;" + shoals + boat("a", "plain", a[0], a[1], roomA, 0, 0)
            + boat("b", "plain", b[0], b[1], roomB, 0, 0) + " cable 9 strong 99 ;");
        c.hours(1);
        return c.boat(0, 3) * 100 + c.boat(1, 3);
    }

    private void catchOfLinks() {
        says("then LINK by LINK (not TORN) whose BOATS are in one row or column: of each CELL between them,"
            + " from the first BOAT on, 2 for that BOAT, then 2 for the other one, likewise.");
        int[][] ends = {{3, 3, 5, 3, 4, 3}, {5, 3, 3, 3, 4, 3}, {3, 3, 3, 5, 3, 4}, {3, 5, 3, 3, 3, 4}};
        int[] want = {0, 100, 200, 201, 202, 202};
        for (int[] end : ends) {
            for (int fish = 1; fish <= 5; fish++) {
                String shoal = " shoal " + end[4] + " " + end[5] + " fish " + fish + " ;";
                int[] a = {end[0], end[1]};
                int[] b = {end[2], end[3]};
                due(fish + " between", sweeps(a, b, 99, 99, shoal), want[fish]);
                due("room for none, the other one", sweeps(a, b, 0, 99, shoal), Math.min(fish, 2));
                due("room for one", sweeps(a, b, 1, 1, shoal), fish == 1 ? 100 : 101);
            }
        }
        String all = " shoal 0 0 fish 9 ; shoal 1 0 fish 9 ; shoal 0 1 fish 9 ; shoal 1 1 fish 9 ; shoal 2 0 fish 9 ;";
        int[] o = {0, 0};
        due("side by side: nothing between", sweeps(o, new int[] {1, 0}, 99, 99, all), 303);
        due("on one cell: nothing between", sweeps(o, o, 99, 99, all), 303);
        due("aslant: nothing", sweeps(o, new int[] {1, 1}, 99, 99, all), 303);
        due("a knight's move: nothing", sweeps(o, new int[] {2, 1}, 99, 99, all), 300);
        due("their own cells are not between", sweeps(o, new int[] {2, 0}, 99, 99, all), 505);
        due("westwards from the first one on: it is full by 2, the other one has but 2 of 4",
            sweeps(new int[] {4, 7}, new int[] {1, 7}, 2, 99, " shoal 3 7 fish 2 ; shoal 2 7 fish 4 ;"), 202);
        due("eastwards", sweeps(new int[] {1, 7}, new int[] {4, 7}, 2, 99, " shoal 2 7 fish 2 ; shoal 3 7 fish 4 ;"), 202);
        due("northwards", sweeps(new int[] {7, 1}, new int[] {7, 4}, 2, 99, " shoal 7 2 fish 2 ; shoal 7 3 fish 4 ;"), 202);
        due("southwards", sweeps(new int[] {7, 4}, new int[] {7, 1}, 2, 99, " shoal 7 3 fish 2 ; shoal 7 2 fish 4 ;"), 202);
        due("six cells between", sweeps(new int[] {0, 7}, new int[] {7, 7}, 99, 99,
            " shoal 1 7 fish 9 ; shoal 2 7 fish 9 ; shoal 3 7 fish 9 ; shoal 4 7 fish 9 ; shoal 5 7 fish 9 ; shoal 6 7 fish 9 ;"),
            1212);
        for (int dx = -3; dx <= 3; dx++) {
            for (int dy = -3; dy <= 3; dy++) {
                int between = Math.max(0, Math.abs(dx + dy) - 1);
                due("fish all around, " + dx + " " + dy, sweeps(new int[] {3, 3}, new int[] {3 + dx, 3 + dy}, 99, 99,
                    fishAround(dx, dy)), dx != 0 && dy != 0 ? 0 : 202 * between);
            }
        }
        OneCable torn = Check.told("bay 8 2 ; shoal 2 0 fish 9 ;" + plain("a", 0, 0) + plain("b", 4, 0));
        torn.hours(1);
        due("a torn one", torn.count(6), 0);
        OneCable old = Check.told("bay 8 2 ; shoal 1 0 fish 9 ;" + boat("a", "old", 0, 0, 3, 0, 0)
            + boat("b", "keen", 2, 0, 99, 0, 0));
        old.hours(1);
        due("an old one has room for 1, a keen one sweeps but 2", old.boat(0, 3) * 10 + old.boat(1, 3), 12);
    }

    /** Shoals on the cells from 0 0 to 6 6, but for 3 3 and the one so far off from it. */
    private static String fishAround(int dx, int dy) {
        StringBuilder shoals = new StringBuilder();
        for (int x = 0; x < 7; x++) {
            for (int y = 0; y < 7; y++) {
                if ((x != 3 || y != 3) && (x != 3 + dx || y != 3 + dy)) {
                    shoals.append("shoal ").append(x).append(' ').append(y).append("fish 9;");
                }
            }
        }
        return shoals.toString();
    }

    private void behindIt() {
        says("Behind it each shoal has one fish more, up to what was told; the HOUR is one more, ORDERS are gone.");
        OneCable c = Check.told("bay 4 2 ; shoal 0 0 fish 3 ; shoal 1 1 fish 1 ; shoal 3 1 fish 99 ;"
            + boat("a", "plain", 0, 0, 5, 0, 0));
        int[] left = {1, 1, 1, 2, 3, 3};
        int[] caught = {3, 4, 5, 5, 5, 5};
        for (int hour = 0; hour < left.length; hour++) {
            due("the hour before", c.count(3), hour);
            c.hours(1);
            due("fish behind hour " + hour, c.cell(0, 0, 0), left[hour]);
            due("caught behind hour " + hour, c.boat(0, 3), caught[hour]);
            due("1 of 1", c.cell(1, 1, 0), 1);
            due("99 of 99", c.cell(3, 1, 0), 99);
            due("no shoal, no fish", c.cell(2, 0, 0), 0);
        }
        c.order(0, 1);
        c.hours(1);
        c.hours(1);
        due("the order is gone", at(c, 0), 1);
        c.order(0, 2);
        c.hours(2);
        due("in the second hour, too", at(c, 0), 11);
        OneCable held = Check.told("bay 4 2 ;" + boat("a", "slow", 0, 0, 0, 0, 0));
        held.hours(1);
        held.order(0, 1);
        held.hours(2);
        due("an order that was not followed is gone as well", at(held, 0), 0);
    }

    private void mending() {
        says("MEND: a TORN LINK is whole again, if its BOATS are no farther apart than it is long.");
        for (int length = 1; length <= 6; length++) {
            OneCable c = Check.told("bay 8 2 ;" + plain("a", 0, 0) + plain("b", 7, 0) + " cable " + length + " strong 99 ;");
            for (int apart = 7; apart > length; apart--) {
                due(apart + " apart, " + length + " long", c.mend(0), false);
                due("torn still", c.link(0, 2), 1);
                c.order(1, 4);
                c.hours(1);
            }
            due("as far apart as long, " + length, c.mend(0), true);
            due("whole", c.link(0, 2), 0);
            due("one part", c.count(4), 1);
            c.order(1, 2);
            c.hours(1);
            due("they go together", at(c, 0), 10);
        }
        OneCable d = row(0, 5, 0);
        d.hours(1);
        due("it tore", d.link(0, 2), 1);
        due("mended", d.mend(0), true);
        d.hours(1);
        due("and tears again", d.link(0, 2), 1);
    }
}
