/** Sentences on SOON, promise 11. */
final class SoonEdges extends Edges {
    /** a is shaken by the swell, b is not, and their link holds nothing. */
    private static final String FRAIL = boat("a", "plain", 0, 0, 99, 0, 0) + boat("b", "plain", 0, 1, 0, 99, 0)
        + " cable 1 strong 0 ;";

    SoonEdges(Check check) {
        super(check);
    }

    @Override
    void run() {
        refused();
        atOnce();
        within();
        waiting();
        aHundred();
        tearing();
        firstRow();
        onTheWay();
        asByOrders();
        nothingDone();
    }

    /** The hours and all moves, and that there is no move behind the last one. */
    private void row(OneCable c, int boat, int fish, int... want) {
        due("hours for " + fish, c.soon(boat, fish, -1), want.length);
        for (int i = 0; i < want.length; i++) {
            due("move " + i + " for " + fish, c.soon(boat, fish, i), want[i]);
        }
        due("no move behind the last one", c.soon(boat, fish, want.length), -1);
        due("nor any later one", c.soon(boat, fish, MAX), -1);
    }

    private void never(OneCable c, int boat, int fish) {
        for (int what : new int[] {-1, 0, 1, 23, 24}) {
            due("never " + fish + ", what " + what, c.soon(boat, fish, what), -1);
        }
    }

    private void refused() {
        says("SOON, within 24 HOURS, what NONE: how many; else the i-th move; NONE: others (fish 0 to 999), never.");
        OneCable c = Check.told("bay 8 8 ; shoal 2 0 fish 3 ;" + plain("a", 0, 0));
        row(c, 0, 3, 2, 2);
        for (int what : new int[] {-2, -3, MIN, 2, 3, 24, 25, MAX}) {
            due("what " + what, c.soon(0, 3, what), -1);
        }
        for (int fish : new int[] {-1, MIN, 1000, MAX}) {
            due("fish " + fish, c.soon(0, fish, -1), -1);
            due("fish " + fish + ", the first move", c.soon(0, fish, 0), -1);
        }
        for (int boat : new int[] {-1, 1, 7, MIN, MAX}) {
            due("boat " + boat, c.soon(boat, 0, -1), -1);
        }
        row(c, 0, 0);
        never(c, 0, 4);
        never(c, 0, 999);
        due("no boat at all", new OneCable().soon(0, 0, -1), -1);
    }

    private void atOnce() {
        says("the fewest HOURS (0: now) behind which its GRIP is so much at least;");
        OneCable c = Check.told("bay 8 8 ; shoal 0 0 fish 2 ; shoal 7 7 fish 9 ;" + plain("a", 0, 0));
        row(c, 0, 1);
        row(c, 0, 2);
        row(c, 0, 3, 1, 1, 1, 1, 1, 1, 1, 2, 2, 2, 2, 2, 2, 2);
        never(c, 0, 4);
        OneCable grown = Check.told("bay 3 2 ; shoal 0 0 fish 9 ;" + plain("a", 0, 0));
        grown.hours(4);
        due("9, 7, 5, 3: one is left", grown.cell(0, 0, 0), 1);
        row(grown, 0, 1);
        never(grown, 0, 2);
        OneCable torn = Check.told("bay 2 2 ; shoal 0 0 fish 3 ;" + FRAIL + " swell 9 ;");
        row(torn, 0, 3);
        OneCable full = Check.told("bay 3 2 ; shoal 0 0 fish 9 ;" + boat("a", "plain", 0, 0, 2, 0, 0));
        row(full, 0, 2);
        full.hours(1);
        never(full, 0, 1);
        row(full, 0, 0);
    }

    private void within() {
        says("SOON, within 24 HOURS, what NONE: how many; else the i-th move; NONE: others (fish 0 to 999), never.");
        String slow = "bay 8 8 ; shoal 7 7 fish 9 ;";
        int[] even = {1, 0, 1, 0, 1, 0, 1, 0, 1, 0, 2, 0, 2, 0, 2, 0, 2, 0, 2, 0, 2, 0, 2};
        OneCable twelve = Check.told(slow + boat("a", "slow", 0, 2, 9, 0, 0));
        row(twelve, 0, 3, even);
        twelve.hours(1);
        int[] odd = new int[24];
        System.arraycopy(even, 0, odd, 1, 23);
        row(twelve, 0, 3, odd);
        OneCable thirteen = Check.told(slow + boat("a", "slow", 0, 1, 9, 0, 0));
        never(thirteen, 0, 3);
        thirteen.hours(1);
        never(thirteen, 0, 3);
    }

    /** Hours in which it must stay: only in hour 23 no link tears at x 1. */
    private void waiting() {
        says("SOON: HOURS go by from now on,");
        OneCable c = Check.told("bay 2 2 ; shoal 1 0 fish 3 ;" + FRAIL + " swell x * not ( hour = 23 ) ;");
        int[] row = new int[24];
        row[23] = 2;
        row(c, 0, 3, row);
        c.hours(22);
        row(c, 0, 3, 0, 2);
        c.hours(1);
        row(c, 1, 3, 2);
        c.hours(1);
        due("hour 24 is as hour 0", c.soon(0, 3, -1), 24);
        says("SOON, within 24 HOURS, what NONE: how many; else the i-th move; NONE: others (fish 0 to 999), never.");
        OneCable d = Check.told("bay 3 2 ; shoal 2 0 fish 3 ;" + FRAIL
            + " swell ( x = 1 ) * not ( hour = 23 ) + ( x = 2 ) * not ( hour = 0 ) ;");
        never(d, 0, 3);
        d.hours(22);
        row(d, 0, 3, 0, 2, 2);
        d.hours(1);
        row(d, 0, 3, 2, 2);
        d.hours(1);
        never(d, 0, 3);
    }

    /** Five links round about the bay sweep 28 cells: a GRIP of three digits. */
    private void aHundred() {
        says("SOON, within 24 HOURS, what NONE: how many; else the i-th move; NONE: others (fish 0 to 999), never.");
        StringBuilder text = new StringBuilder("bay 8 8;");
        for (int i = 1; i < 7; i++) {
            text.append("shoal ").append(i).append(" 0fish 4;shoal 7 ").append(i).append("fish 4;shoal ").append(i).append(" 7fish 4;");
        }
        for (int i = 1; i < 6; i++) {
            text.append("shoal 0 ").append(i + 1).append("fish 4;shoal ").append(i).append(" 1fish 4;");
        }
        int[] corners = {0, 0, 7, 0, 7, 7, 0, 7, 0, 1, 6, 1};
        for (int b = 0; b < 6; b++) {
            text.append(plain("n" + (char) ('a' + b), corners[2 * b], corners[2 * b + 1]));
        }
        OneCable c = Check.told(text + "cable 9strong 0;cable 9strong 0;cable 9strong 0;cable 9strong 0;cable 9strong 0;");
        due("all of it", c.grip(0, 0, 0), 112);
        for (int fish = 98; fish <= 114; fish++) {
            due("so much now: " + fish, c.soon(5, fish, -1), fish <= 112 ? 0 : -1);
        }
        due("worth", c.worth(0, 5), 112);
        c.hours(1);
        due("caught", c.count(6), 112);
    }

    private void tearing() {
        says("and no LINK of it may TEAR in it:");
        OneCable behind = Check.told("bay 8 2 ; shoal 6 0 fish 9 ;" + plain("a", 0, 0) + plain("b", 5, 0) + plain("c", 5, 1)
            + " cable 1 strong 0 ; cable 1 strong 0 ;");
        due("a part behind a torn link", behind.soon(1, 3, -1), 1);
        due("goes east", behind.soon(2, 3, 0), 2);
        for (int strong = 0; strong <= 6; strong++) {
            OneCable c = Check.told("bay 3 2 ; shoal 2 0 fish 3 ;" + boat("a", "plain", 0, 0, 99, 0, 0)
                + boat("b", "plain", 0, 1, 0, 99, 0) + " cable 1 strong " + strong + " ; swell ( x = 1 ) * 9 ;");
            if (strong < 5) {
                never(c, 0, 3);
            } else {
                row(c, 0, 3, 2, 2);
            }
        }
        OneCable arrive = Check.told("bay 3 2 ; shoal 2 0 fish 3 ;" + FRAIL + " swell x = 2 ;");
        never(arrive, 0, 3);
        OneCable leave = Check.told("bay 3 2 ; shoal 2 0 fish 3 ;" + FRAIL + " swell x = 0 ;");
        row(leave, 0, 3, 2, 2);
        OneCable other = Check.told("bay 8 2 ; shoal 2 0 fish 3 ;" + plain("c", 0, 0) + boat("a", "plain", 7, 0, 0, 0, 0)
            + boat("b", "plain", 7, 1, 0, 99, 0) + " cable 1 strong 0 ; cable 1 strong 0 ; swell 9 ;");
        row(other, 0, 3, 2, 2);
        never(other, 1, 1);
        int[][] strong = {{2, 0}, {1, 1}, {2, 1}};
        for (int[] links : strong) {
            OneCable c = Check.told("bay 3 3 ; shoal 2 0 fish 3 ;" + boat("a", "plain", 0, 0, 9, 6, 0)
                + boat("b", "plain", 0, 1, 0, 99, 0) + boat("c", "plain", 0, 2, 0, 99, 0) + " cable 1 strong " + links[0]
                + " ; cable 1 strong " + links[1] + " ; swell ( x = 1 ) * 9 ;");
            if (links[0] + links[1] < 3) {
                never(c, 0, 3);
            } else {
                row(c, 0, 3, 2, 2);
            }
        }
    }

    private void firstRow() {
        says("of equal ones the first row of ORDERS.");
        String middle = "bay 3 3 ;" + plain("a", 1, 1);
        String[] shoals = {" shoal 1 2 fish 1 ;", " shoal 2 1 fish 1 ;", " shoal 1 0 fish 1 ;", " shoal 0 1 fish 1 ;"};
        for (int first = 0; first < 4; first++) {
            StringBuilder text = new StringBuilder(middle);
            for (int way = 3; way >= first; way--) {
                text.append(shoals[way]);
            }
            row(Check.told(text.toString()), 0, 1, first + 1);
        }
        row(Check.told(middle + "shoal 2 2 fish 1 ; shoal 0 0 fish 1 ;"), 0, 1, 1, 2);
        row(Check.told(middle + "shoal 2 2 fish 1 ; rock 1 2 ;"), 0, 1, 2, 1);
        row(Check.told(middle + "shoal 2 0 fish 1 ; shoal 0 0 fish 1 ;"), 0, 1, 2, 3);
        row(Check.told(middle + "shoal 0 0 fish 1 ;"), 0, 1, 3, 4);
        row(Check.told(middle + "shoal 0 0 fish 1 ; rock 1 0 ;"), 0, 1, 4, 3);
        OneCable wait = Check.told("bay 3 2 ; shoal 2 0 fish 3 ;" + FRAIL + " swell ( x = 2 ) * ( hour < 3 ) ;");
        row(wait, 0, 3, 0, 0, 2, 2);
    }

    /** At x 0 it can't stay, so what it does later does not begin there. */
    private void onTheWay() {
        says("SOON: HOURS go by from now on, in each the PART stays or goes one CELL as by ORDERS (0 to 4, those by which"
            + " it can), and no LINK of it may TEAR in it:");
        OneCable c = Check.told("bay 3 2 ; shoal 2 0 fish 3 ;" + FRAIL + " swell ( x = 0 ) + ( x = 2 ) * ( hour < 3 ) ;");
        row(c, 0, 3, 2, 0, 0, 2);
        OneCable d = Check.told("bay 4 2 ; shoal 3 0 fish 3 ;" + FRAIL
            + " swell ( x = 0 ) + ( x = 1 ) * ( 0 < hour ) + ( x = 2 ) * ( hour < 2 ) ;");
        never(d, 0, 3);
        OneCable e = Check.told("bay 8 8 ; shoal 7 0 fish 3 ; rock 5 0 ; rock 5 1 ; rock 5 2 ;" + plain("a", 0, 0));
        row(e, 0, 3, 1, 1, 1, 2, 2, 2, 2, 2, 2, 2, 3, 3, 3);
        Check.tell(e, "bay 8 8 ; shoal 7 0 fish 3 ;" + plain("a", 0, 0));
        row(e, 0, 3, 2, 2, 2, 2, 2, 2, 2);
        Check.tell(e, "bay 8 8 ; shoal 7 0 fish 3 ; rock 1 0 ; rock 0 1 ;" + plain("a", 0, 0));
        never(e, 0, 3);
        Check.tell(e, "bay 7 8 ; shoal 6 0 fish 3 ;" + plain("a", 0, 0) + plain("b", 0, 1));
        row(e, 0, 3, 2, 2, 2, 2, 2, 2);
        OneCable f = Check.told("bay 2 4 ; shoal 0 3 fish 3 ;" + boat("a", "plain", 0, 0, 9, 0, 0)
            + boat("b", "plain", 1, 0, 0, 99, 0) + " cable 1 strong 0 ; swell y = 2 ;");
        never(f, 0, 3);
    }

    private void asByOrders() {
        says("in each the PART stays or goes one CELL as by ORDERS (0 to 4, those by which it can),");
        OneCable c = Check.told("bay 4 3 ; shoal 3 0 fish 1 ; rock 2 1 ;" + plain("a", 0, 0) + plain("b", 0, 1));
        never(c, 0, 1);
        OneCable d = Check.told("bay 4 4 ; shoal 3 0 fish 1 ; rock 2 1 ;" + plain("a", 0, 0) + boat("b", "plain", 0, 1, 0, 0, 0));
        row(d, 1, 1, 1, 1, 2, 2, 2, 3, 3);
        OneCable e = Check.told("bay 4 4 ; shoal 3 1 fish 1 ; rock 2 1 ;" + plain("a", 0, 0) + plain("b", 0, 1));
        due("round the rock, by y 2: north twice, east three times, south", e.soon(0, 1, -1), 6);
        OneCable f = Check.told("bay 4 2 ; shoal 3 0 fish 3 ;" + plain("a", 0, 0) + plain("b", 1, 0));
        row(f, 0, 3, 2, 2);
        OneCable slow = Check.told("bay 4 2 ; shoal 3 0 fish 3 ;" + plain("a", 0, 0) + boat("b", "slow", 0, 0, 0, 0, 0));
        row(slow, 0, 3, 2, 0, 2, 0, 2);
        OneCable first = Check.told("bay 4 2 ; shoal 3 0 fish 3 ;" + boat("a", "slow", 0, 0, 0, 0, 0) + plain("b", 0, 0)
            + plain("c", 0, 1));
        row(first, 2, 3, 2, 0, 2, 0, 2);
        OneCable parts = Check.told("bay 8 2 ; shoal 2 0 fish 3 ;" + plain("a", 0, 0) + boat("b", "slow", 7, 0, 9, 0, 0));
        row(parts, 0, 3, 2, 2);
        row(parts, 1, 3, 4, 0, 4, 0, 4, 0, 4, 0, 4);
    }

    private void nothingDone() {
        says("Nothing is done.");
        OneCable c = Check.told("bay 8 8 ; shoal 5 5 fish 9 ; shoal 1 1 fish 9 ;" + plain("a", 1, 1) + plain("b", 1, 2)
            + " swell x ;");
        c.hours(1);
        c.order(0, 2);
        String before = print(c);
        for (int fish = 0; fish < 9; fish++) {
            c.soon(0, fish, -1);
            c.soon(1, fish, 3);
        }
        same("all is as before", print(c), before);
        c.hours(1);
        due("and the order stood", at(c, 0), 21);
    }
}
