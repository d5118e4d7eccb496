/** Sentences on WORTH, LEAVES and FAIR, promises 15, 17 and 18. */
final class HeapEdges extends Edges {
    /** Runs are worth 3, 0, 2 alone, 7 and 6 in twos, 13 together. */
    private static final String THREE = "bay 8 2 ; shoal 0 0 fish 3 ; shoal 1 0 fish 9 ; shoal 3 0 fish 9 ; shoal 4 0 fish 2 ;"
        + plain("a", 0, 0) + plain("b", 2, 0) + plain("c", 4, 0);

    HeapEdges(Check check) {
        super(check);
    }

    @Override
    void run() {
        worth();
        alone();
        leaves();
        inOrder();
        fair();
        given();
    }

    private void worth() {
        says("WORTH of a run; NONE: others.");
        OneCable c = Check.told(THREE);
        int[][] want = {{3, 7, 13}, {-1, 0, 6}, {-1, -1, 2}};
        for (int i = 0; i < 3; i++) {
            for (int j = 0; j < 3; j++) {
                due("run " + i + " to " + j, c.worth(i, j), want[i][j]);
            }
        }
        for (int far : new int[] {-1, 3, 7, MIN, MAX}) {
            due("from " + far, c.worth(far, 2), -1);
            due("to " + far, c.worth(0, far), -1);
            due("from and to " + far, c.worth(far, far), -1);
        }
        due("no boat at all", new OneCable().worth(0, 0), -1);
        OneCable seven = Check.told("bay 2 2 ;" + boats(7));
        due("of seven", seven.worth(0, 6) + seven.worth(6, 6), 0);
        due("of eight", seven.worth(0, 7), -1);
    }

    private void alone() {
        says("WORTH of a run of BOATS (i to j): what these alone, with the LINKS between them that are not TORN,"
            + " would CATCH now where they are.");
        OneCable c = Check.told("bay 2 2 ; shoal 0 0 fish 4 ;" + plain("a", 0, 0) + plain("b", 0, 0) + plain("c", 0, 0));
        due("each of them alone", c.worth(0, 0) * 100 + c.worth(1, 1) * 10 + c.worth(2, 2), 333);
        due("two or three have 4", c.worth(0, 1) * 100 + c.worth(1, 2) * 10 + c.worth(0, 2), 444);
        OneCable torn = Check.told("bay 8 2 ; shoal 1 0 fish 9 ; shoal 4 0 fish 9 ;" + plain("a", 0, 0) + plain("b", 2, 0)
            + plain("c", 6, 0));
        due("whole", torn.worth(0, 1), 4);
        due("torn", torn.worth(1, 2), 0);
        due("over both", torn.worth(0, 2), 4);
        torn.order(2, 4);
        torn.hours(1);
        torn.mend(1);
        due("mended: 3, 4 between, both with fish", torn.worth(1, 2), 4);
        OneCable full = Check.told("bay 2 2 ; shoal 0 0 fish 9 ;" + boat("a", "plain", 0, 0, 4, 0, 0));
        due("now", full.worth(0, 0), 3);
        full.hours(1);
        due("room for one", full.worth(0, 0), 1);
        full.hours(1);
        due("room for none", full.worth(0, 0), 0);
    }

    private void leaves() {
        says("LEAVES, as 10 * i + j; NONE: none.");
        due("no boat", new OneCable().leaves(), -1);
        due("no fish", Check.told("bay 2 2 ;" + boats(7)).leaves(), -1);
        OneCable c = Check.told(THREE);
        due("0 to 0", c.leaves(), 0);
        c.share(0, 3);
        due("0 to 1", c.leaves(), 1);
        c.share(0, 7);
        due("0 to 2", c.leaves(), 2);
        c.share(0, 999);
        due("1 to 2", c.leaves(), 12);
        c.share(1, 999);
        due("2 to 2", c.leaves(), 22);
        c.share(2, 2);
        due("none", c.leaves(), -1);
        OneCable seven = Check.told("bay 2 2 ; shoal 1 1 fish 9 ;" + boats(6) + plain("g", 1, 1));
        due("0 to 6", seven.leaves(), 6);
        for (int b = 0; b < 6; b++) {
            seven.share(b, 3);
            due("the next run to 6", seven.leaves(), 10 * (b + 1) + 6);
        }
        seven.share(6, 3);
        due("none", seven.leaves(), -1);
    }

    private void inOrder() {
        says("LEAVES: the first run (by i, then j) whose shares together are less than its WORTH.");
        OneCable c = Check.told(THREE);
        int[][] sharesAndWant = {{3, 4, 6, -1}, {2, 5, 6, 0}, {3, 3, 7, 1}, {3, 4, 5, 2}, {7, 0, 6, -1}, {8, 0, 5, 12},
            {7, 5, 1, 22}, {3, 9, 1, 22}, {2, 0, 0, 0}, {999, 999, 999, -1}, {13, 0, 0, 12}, {13, 6, 0, 22}};
        for (int[] row : sharesAndWant) {
            for (int b = 0; b < 3; b++) {
                c.share(b, row[b]);
            }
            due("shares " + row[0] + " " + row[1] + " " + row[2], c.leaves(), row[3]);
        }
    }

    private void shares(String text, int... want) {
        OneCable c = Check.told(text);
        for (int b = 0; b < want.length; b++) {
            due("the share of " + b + " in " + text, c.fair(b), want[b]);
        }
    }

    private void fair() {
        says("FAIR: the row of shares by which BOATS 0 to k together have as little as can be, for each k,"
            + " but that no run has less than its WORTH;");
        shares(THREE, 3, 4, 6);
        String sweep = "bay 8 2 ; shoal 1 0 fish 9 ; shoal 3 0 fish 9 ;" + plain("a", 0, 0) + plain("b", 2, 0);
        shares(sweep, 0, 4);
        shares(sweep + plain("c", 4, 0), 0, 4, 4);
        shares("bay 2 2 ;" + boats(7), 0, 0, 0, 0, 0, 0, 0);
        shares("bay 2 2 ; shoal 0 0 fish 9 ;" + plain("a", 0, 0), 3);
        shares("bay 2 2 ; shoal 0 0 fish 6 ;" + plain("a", 0, 0) + plain("b", 0, 0), 3, 3);
        OneCable c = Check.told(THREE);
        for (int b = 0; b < 3; b++) {
            c.share(b, c.fair(b));
        }
        due("by these no run leaves", c.leaves(), -1);
        c.share(2, 5);
        due("by one less some run does", c.leaves(), 2);
        due("shares by hand do not change it", c.fair(2), 6);
        OneCable less = Check.told("bay 2 2 ; shoal 0 0 fish 3 ;" + plain("a", 0, 0));
        due("of now", less.fair(0), 3);
        less.hours(1);
        due("of one fish", less.fair(0), 1);
    }

    private void given() {
        says("it is given if all together have the WORTH of all then, not more.");
        for (int fish = 1; fish <= 7; fish++) {
            String text = "bay 2 2 ; shoal 0 0 fish " + fish + " ;" + plain("a", 0, 0) + plain("b", 0, 0);
            if (fish < 6) {
                shares(text, -1, -1);
            } else {
                shares(text, 3, 3);
            }
        }
        says("FAIR: the share of a BOAT; NONE: others, it is not given.");
        OneCable c = Check.told(THREE);
        for (int b : new int[] {-1, 3, 7, MIN, MAX}) {
            due("boat " + b, c.fair(b), -1);
        }
        due("no boat at all", new OneCable().fair(0), -1);
        OneCable not = Check.told("bay 2 2 ; shoal 0 0 fish 4 ;" + plain("a", 0, 0) + plain("b", 0, 0));
        due("3 and 3 of 4: not given", not.fair(0), -1);
        not.hours(1);
        due("of one fish: 1 and 1", not.fair(1), -1);
        OneCable torn = Check.told("bay 8 2 ; shoal 0 0 fish 3 ; shoal 7 0 fish 2 ;" + plain("a", 0, 0) + plain("b", 7, 0));
        due("over a torn link", torn.fair(0) * 10 + torn.fair(1), 32);
    }
}
