/** Sentences on DAWN, WISH, CHOSEN, NOBODY'S and CAN GET, promises 12 to 14. */
final class CouncilEdges extends Edges {
    CouncilEdges(Check check) {
        super(check);
    }

    @Override
    void run() {
        dawn();
        wishes();
        refusedWishes();
        chosen();
        nobodys();
        noneChosen();
        canGet();
        refusedGains();
    }

    /** The ways by which all boats can go, as bits. */
    private static int ways(OneCable c) {
        int bits = 0;
        for (int way = 0; way < 5; way++) {
            bits |= c.wish(0, way) >= 0 ? 1 << way : 0;
        }
        return bits;
    }

    private void dawn() {
        says("DAWN: all BOATS, as if no LINK were TORN, would go by one ORDER (0 to 4);"
            + " those by which some BOAT's next CELL is rock or not in the bay can't be.");
        String two = "bay 2 2 ;";
        due("from 0 0", ways(Check.told(two + plain("a", 0, 0))), 1 + 2 + 4);
        due("from 1 0", ways(Check.told(two + plain("a", 1, 0))), 1 + 2 + 16);
        due("from 0 1", ways(Check.told(two + plain("a", 0, 1))), 1 + 4 + 8);
        due("from 1 1", ways(Check.told(two + plain("a", 1, 1))), 1 + 8 + 16);
        due("none but to stay", ways(Check.told(two + plain("a", 0, 0) + plain("b", 1, 1))), 1);
        due("the middle", ways(Check.told("bay 3 3 ;" + plain("a", 1, 1))), 31);
        due("rock all round", ways(Check.told("bay 3 3 ;" + plain("a", 1, 1)
            + " rock 0 1 ; rock 2 1 ; rock 1 0 ; rock 1 2 ;")), 1);
        due("rock aslant", ways(Check.told("bay 3 3 ;" + plain("a", 1, 1)
            + " rock 0 0 ; rock 2 2 ; rock 2 0 ; rock 0 2 ;")), 31);
        OneCable torn = Check.told("bay 8 8 ;" + plain("a", 3, 3) + plain("b", 7, 7));
        due("torn, and yet one", torn.link(0, 2), 1);
        due("the one in the corner holds all", ways(torn), 1 + 8 + 16);
        OneCable rock = Check.told("bay 8 8 ;" + plain("a", 3, 3) + plain("b", 5, 5) + " rock 5 6 ;");
        due("rock before one of another part", ways(rock), 1 + 4 + 8 + 16);
        OneCable slow = Check.told("bay 3 3 ;" + boat("a", "slow", 1, 1, 0, 0, 0));
        slow.hours(1);
        due("a slow one in an odd hour: neither rock nor border", ways(slow), 31);
    }

    private static int wishOf(String law) {
        return Check.told("bay 3 3 ;" + plain("a", 1, 1) + " wish " + law + " ;").wish(0, 0);
    }

    private void wishes() {
        says("WISH of a BOAT for an ORDER: the E of wish at its next CELL in this HOUR, 0 below it, 99 above.");
        due("-1", wishOf("0 - 1"), 0);
        due("0", wishOf("0"), 0);
        due("1", wishOf("1"), 1);
        due("98", wishOf("98"), 98);
        due("99", wishOf("99"), 99);
        due("100", wishOf("100"), 99);
        due("9999", wishOf("9999"), 99);
        due("-9999", wishOf("0 - 9999"), 0);
        due("2147483648 wraps", wishOf("8192 * 8 * 4096 * 8"), 0);
        due("-2147483649 wraps", wishOf("8192 * 8 * 4096 * 8 - 1"), 99);
        OneCable c = Check.told("bay 3 3 ;" + plain("a", 1, 1) + " wish x * 10 + y + hour * 30 ;");
        int[] want = {11, 12, 21, 10, 1};
        for (int hour = 0; hour < 3; hour++) {
            for (int way = 0; way < 5; way++) {
                due("way " + way + " in hour " + hour, c.wish(0, way), want[way] + 30 * hour);
            }
            c.hours(1);
        }
        c.hours(21);
        due("hour 24", c.wish(0, 2), 21);
    }

    private void refusedWishes() {
        says("WISH; NONE: others, that ORDER can't be.");
        OneCable c = Check.told("bay 3 3 ; rock 1 2 ;" + plain("a", 1, 1) + plain("b", 2, 1) + " wish 7 ;");
        for (int b = 0; b < 2; b++) {
            int[] want = {7, -1, -1, 7, 7};
            for (int way = 0; way < 5; way++) {
                due("boat " + b + " way " + way, c.wish(b, way), want[way]);
            }
            for (int way : new int[] {-1, 5, 6, MIN, MAX}) {
                due("way " + way, c.wish(b, way), -1);
            }
        }
        for (int b : new int[] {-1, 2, 7, MIN, MAX}) {
            due("boat " + b, c.wish(b, 0), -1);
        }
        due("no boat at all", new OneCable().wish(0, 0), -1);
    }

    /** Boats with their trust at 1 1 of a bay of 3 by 3, told apart by their room: 10, 11 and so on. */
    private static OneCable council(String law, int... trust) {
        StringBuilder text = new StringBuilder("bay 3 3 ;");
        for (int b = 0; b < trust.length; b++) {
            text.append(boat("n" + (char) ('a' + b), "plain", 1, 1, 10 + b, 0, trust[b]));
        }
        return Check.told(text + " wish " + law + " ;");
    }

    private void chosen() {
        says("CHOSEN: the ORDER that can be with the greatest sum of trust times WISH; of equal ones the least.");
        due("all 0", council("0", 1).chosen(false), 0);
        due("all 99", council("99", 9, 9).chosen(false), 0);
        due("east", council("x", 1).chosen(false), 2);
        due("north and east alike", council("x + y", 1).chosen(false), 1);
        due("south and west alike", council("4 - x - y", 1).chosen(false), 3);
        due("west", council("2 - x", 1).chosen(false), 4);
        due("no trust, all alike", council("x", 0).chosen(false), 0);
        String split = "( room = 10 ) * ( y = 2 ) * 9 + ( room = 11 ) * ( x = 2 ) * 9";
        due("alike", council(split, 4, 4).chosen(false), 1);
        due("by one more", council(split, 4, 5).chosen(false), 2);
        due("by one less", council(split, 5, 4).chosen(false), 1);
        due("trust 0 has no voice", council(split, 0, 1).chosen(false), 2);
        due("9 of trust times 99, seven times", council("99 * ( x = 0 )", 9, 9, 9, 9, 9, 9, 9).chosen(false), 4);
        OneCable held = Check.told("bay 3 3 ; rock 2 1 ;" + plain("a", 1, 1) + " wish x * 10 + ( x = 1 ) * ( y = 2 ) ;");
        due("the greatest can't be", held.chosen(false), 1);
        OneCable corner = Check.told("bay 2 2 ;" + plain("a", 0, 0) + plain("b", 1, 1) + " wish x + y ;");
        due("none can be but to stay", corner.chosen(false), 0);
        OneCable far = Check.told("bay 8 8 ;" + boat("a", "plain", 1, 1, 0, 0, 1) + boat("b", "plain", 6, 6, 0, 0, 2)
            + " wish ( x < 4 ) * x * 9 + ( 4 < x ) * y * 5 ;");
        due("each at its own next cell: 18 + 60 east, 9 + 70 north", far.chosen(false), 1);
    }

    private void nobodys() {
        says("NOBODY'S: likewise, of those that are no BOAT's best (its greatest WISH, the least ORDER that can be"
            + " of equal ones).");
        due("all alike: 0 is the best", council("5", 1).chosen(true), 1);
        due("east is the best, then 0", council("x", 1).chosen(true), 0);
        due("0 is the best, then the next sum", council("( x = 1 ) * ( y = 1 ) * 9 + ( x = 0 ) * 3", 1).chosen(true), 4);
        String split = "( room = 10 ) * ( y = 2 ) * 9 + ( room = 11 ) * ( x = 2 ) * 9";
        due("north and east are the best", council(split, 4, 5).chosen(true), 0);
        due("a best without trust is one, too", council(split, 0, 1).chosen(true), 0);
        due("the best of one without trust is barred", council("( room = 10 ) * x + ( room = 11 ) * y", 1, 0).chosen(true), 0);
        OneCable gone = Check.told("bay 3 3 ;" + plain("a", 1, 1) + " wish ( x = 2 ) * ( hour = 0 ) * 99 ;");
        due("east is the best in hour 0", gone.chosen(true), 0);
        gone.order(0, 2);
        gone.hours(1);
        due("but can't be from there: to stay is the best", gone.chosen(true), 1);
        OneCable tie = council("( y = 2 ) * 9 + ( x = 2 ) * 9", 3);
        due("of equal ones the least is the best, the other one is nobody's", tie.chosen(true), 2);
        OneCable held = Check.told("bay 3 3 ; rock 2 1 ;" + plain("a", 1, 1) + " wish x * 10 + ( x = 1 ) * ( y = 2 ) ;");
        due("north is the best that can be, east can't", held.chosen(true), 0);
    }

    private void noneChosen() {
        says("CHOSEN (nobody: NOBODY'S); NONE: no BOAT, none.");
        due("no boat", new OneCable().chosen(false), -1);
        due("no boat, nobody's", new OneCable().chosen(true), -1);
        OneCable corner = Check.told("bay 2 2 ;" + plain("a", 0, 0) + plain("b", 1, 1));
        due("to stay is the best of all, none is nobody's", corner.chosen(true), -1);
        String each = "( room = 10 ) * ( x = 1 ) * ( y = 1 ) + ( room = 11 ) * ( y = 2 ) + ( room = 12 ) * ( x = 2 )"
            + " + ( room = 13 ) * ( y = 0 ) + ( room = 14 ) * ( x = 0 )";
        due("each one's best is another", council(each, 1, 1, 1, 1, 1).chosen(true), -1);
        due("and the least is chosen", council(each, 1, 1, 1, 1, 1).chosen(false), 0);
        due("one is left", council(each, 1, 1, 1, 1).chosen(true), 4);
    }

    private void canGet() {
        says("CAN GET: ORDERS that would be CHOSEN if one BOAT told WISHES as it likes (0 to 99 each), the others truly.");
        String law = "( room = 11 ) * y * 11";
        due("trust 0: what is chosen", council(law, 0, 9).canGet(0), 2);
        due("99 + 99 is level with 198: 0, which is less than 1, but not 2, 4", council(law, 1, 9).canGet(0), 3);
        due("2 * 99 + 0 is level with 198: not 3", council(law, 2, 9).canGet(0), 1 + 2 + 4 + 16);
        due("all", council(law, 3, 9).canGet(0), 31);
        due("the one whose wishes are known, against nothing", council(law, 1, 9).canGet(1), 31);
        due("alone without trust", council("x", 0).canGet(0), 1);
        due("alone with trust 1", council("x", 1).canGet(0), 31);
        OneCable corner = Check.told("bay 2 2 ;" + boat("a", "plain", 0, 0, 0, 0, 9));
        due("only those that can be", corner.canGet(0), 1 + 2 + 4);
        String south = "( room = 11 ) * ( y = 0 ) * 99";
        due("99 against 99: the least of equal ones", council(south, 1, 1).canGet(0), 1 + 2 + 4 + 8);
        due("99 against 198", council(south, 1, 2).canGet(0), 8);
        String least = "( room = 11 ) * ( x = 1 ) * ( y = 1 ) * 99";
        due("99 for 0: none beats it", council(least, 1, 1).canGet(0), 1);
        String below = "( room = 11 ) * ( x = 1 ) * ( y = 1 ) * 98";
        due("98 for 0: all do", council(below, 1, 1).canGet(0), 31);
    }

    private void refusedGains() {
        says("CAN GET, as bits; NONE: no such BOAT.");
        OneCable c = council("x", 1, 2);
        String before = print(c);
        due("the first", c.canGet(0) > 0, true);
        due("the last", c.canGet(1) > 0, true);
        for (int b : new int[] {-1, 2, 7, MIN, MAX}) {
            due("boat " + b, c.canGet(b), -1);
        }
        due("no boat at all", new OneCable().canGet(0), -1);
        same("wishes stay true", print(c), before);
        due("and the choice", c.chosen(false), 2);
    }
}
