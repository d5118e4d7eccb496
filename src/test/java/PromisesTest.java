/** Promise by promise, answers worked out by hand from the document. */
public final class PromisesTest {
    private static final int THROWN = Integer.MIN_VALUE;
    private static final Check CHECK = new Check();
    private static final int[] STRANGE = {Integer.MIN_VALUE, -1000, -9, -2, -1, 0, 1, 2, 3, 6, 7, 8, 99, 100,
        1000, Integer.MAX_VALUE};

    /** Forces 3, 9, 0: LINK 0 strains 3 of 15, LINK 1 strains 12 of 9. */
    private static final String THREE = "bay 8 8 ; boat a plain at 1 1 hold 10 pull 4 trust 2 ;"
        + " boat b keen at 3 1 hold 9 pull 0 trust 1 ; boat c old at 3 3 hold 9 pull 10 trust 0 ;"
        + " cable 2 strong 5 ; cable 4 strong 3 ; shoal 1 1 fish 8 ; shoal 2 1 fish 3 ; shoal 3 2 fish 9 ;"
        + " swell 6 + x ;";

    public static void main(String[] args) {
        newObject();
        feed();
        faults();
        laws();
        boat();
        link();
        cell();
        order();
        hours();
        catching();
        mend();
        grip();
        soon();
        wish();
        chosen();
        canGet();
        worth();
        sharing();
        fair();
        storm();
        join();
        seasons();
        mark();
        count();
        strange();
        CHECK.end("PromisesTest");
    }

    private static void due(String what, long got, long want) {
        CHECK.due(what, got, want);
    }

    private static void due(String what, boolean got, boolean want) {
        CHECK.due(what, got, want);
    }

    private static String boatAt(String name, int x, int y) {
        return " boat " + name + " plain at " + x + " " + y + " hold 99 pull 0 trust 1 ;";
    }

    private static void newObject() {
        OneCable c = new OneCable();
        int[] counts = {2, 2, 0, 0, 0, 0, 0, 10, 20, 0, -1};
        for (int what = 0; what < counts.length; what++) {
            due("1: count " + what, c.count(what), counts[what]);
        }
        due("1: NONE", OneCable.NONE, -1);
        due("1: swell", c.cell(1, 1, 1), 10);
        due("1: beyond", c.cell(2, 0, 1), -1);
        due("1: boat", c.boat(0, 0), -1);
        due("1: link", c.link(0, 0), -1);
        due("1: order", c.order(0, 0), false);
        due("1: mend", c.mend(0), false);
        due("1: grip", c.grip(0, 0, 0), -1);
        due("1: soon", c.soon(0, 0, -1), -1);
        due("1: wish", c.wish(0, 0), -1);
        due("1: chosen", c.chosen(false), -1);
        due("1: nobody's", c.chosen(true), -1);
        due("1: canGet", c.canGet(0), -1);
        due("1: worth", c.worth(0, 0), -1);
        due("1: share", c.share(0, 0), false);
        due("1: leaves", c.leaves(), -1);
        due("1: fair", c.fair(0), -1);
        due("1: storm", Check.storm(c, -1), THROWN);
        due("1: join", c.join(0, 0, 0), -1);
        due("1: seasons", c.seasons(0, 99, 0), 0);
        due("1: seasons loose", c.seasons(0, 99, 1), 0);
        due("1: no mark", c.mark(0, true), false);
        due("1: hours", c.hours(100), 100);
    }

    private static void feed() {
        OneCable c = new OneCable();
        due("2: nothing", c.feed(0, 0, 0), 0);
        due("2: left out 9, 11, 31, 127, 128, 255", c.feed(0x090b1f7f80ffL, -1L, Long.MIN_VALUE), 0);
        due("2: 10, 32, 126 stay", c.feed(0x0a207eL, 0, 0), 3);
        due("2: count", c.count(9), 3);
        due("2: none of them opens a bay", c.bay(), 1 + 16 * 2);
        due("2: taken", c.count(9), 0);
        due("2: in order", c.feed(0x6261792032203300L, 0x203bL, 0), 9);
        due("2: bay 2 3 ;", c.bay(), 0);
        due("2: deep", c.count(1), 3);
        for (int i = 0; i < 41; i++) {
            due("2: filling", c.feed(0x2020202020202020L, 0x2020202020202020L, 0x2020202020202020L), 24 * (i + 1));
        }
        due("2: the last 16", Check.feed(c, "bay 3 4 ;12345678901"), 1000);
        due("2: full", c.feed(0x20, 0x20, 0x20), 1000);
        due("2: cut behind 1234567", c.bay(), 1 + 16 * 993);
        Check.feed(c, " ".repeat(991));
        due("2: fits", Check.feed(c, "bay 5 6 ;x"), 1000);
        due("2: 1000 signs are a bay", c.bay(), 0);
        due("2: wide", c.count(0), 5);
    }

    /** The mark ^ stands before the token that is wrong. */
    private static void fault(String text, int kind) {
        OneCable c = Check.told("bay 7 7 ;" + boatAt("z", 1, 1));
        c.share(0, 5);
        c.mark(0, false);
        String tape = text.replace("^", "");
        due("3: " + text, Check.tell(c, tape), kind + 16 * text.indexOf('^'));
        due("3: all stays, " + text, c.count(0) * 100 + c.count(2) * 10 + c.boat(0, 8), 715);
        due("3: marks stay, " + text, c.mark(0, true), true);
        due("3: the tape is taken, " + text, c.count(9), 0);
    }

    private static void faults() {
        String b = "bay 4 5 ; rock 1 1 ; shoal 2 2 fish 5 ; boat pp plain at 3 3 hold 1 pull 1 trust 1 ; ";
        String law = "swell 1 ; wish 2 ; gales 3 ; loose 4 ; ";
        String seven = "bay 3 3 ;";
        for (int i = 0; i < 7; i++) {
            seven += boatAt("n" + (char) ('a' + i), i % 3, 0);
        }
        String[] cantStand = {"^", "   ^", "\n^", "^rock 1 1 ;", "^3", "^;", "^bays 3 3 ;", "bay^", "bay ^;",
            "bay 4 ^x", "bay 4 4 ^", "bay 4 4 ^4 ;", "bay ^44444 4 ;", "^bayyyyyyy 4 4 ;", "bay 4 4 ^, ;",
            "bay 4 4 ; ^bay 4 4 ;", "bay 4 4 ; ^;", "bay 4 4 ; ^1", "bay 4 4 ; ^Rock 1 1 ;", "bay 4 4 ; ^rocks 1 1 ;",
            b + "rock ^;", b + "rock 1 ^;", b + "rock 0 0 ^rock", b + "rock ^-1 1 ;", b + "shoal 0 0 ^3 ;",
            b + "shoal 0 0 fish ^;", b + "shoal 0 0 fish ^x", b + "shoal 0 0 fish 3 ^", b + "boat ^;", b + "boat ^7",
            b + "boat ^abcdefghi plain", b + "boat qq ^fast", b + "boat qq ^at", b + "boat qq slow ^1 1",
            b + "boat qq slow at ^x", b + "boat qq slow at 1 ^;", b + "boat qq slow at 0 0 ^pull 3",
            b + "boat qq slow at 0 0 hold ^;", b + "boat qq slow at 0 0 hold 1 ^trust", b + "boat qq slow at 0 0 hold 1 pull ^x",
            b + "boat qq slow at 0 0 hold 1 pull 1 ^;", b + "boat qq slow at 0 0 hold 1 pull 1 trust ^",
            b + "boat qq slow at 0 0 hold 1 pull 1 trust 1^", b + boatAt("qq", 0, 0) + "cable ^strong",
            b + boatAt("qq", 0, 0) + "cable 1 ^1", b + boatAt("qq", 0, 0) + "cable 1 strong ^;",
            b + boatAt("qq", 0, 0) + "cable 1 strong 1^", b + "gales ^x", b + "gales 5 ^5", b + "loose ^;",
            b + "loose 5 ^)", b + "swell ^;", b + "swell ^fish", b + "swell ^rough", b + "swell ^room", b + "swell ^far",
            b + "swell ^pp", b + "swell x ^y", b + "swell x +^", b + "swell x + ^;", b + "swell ^* x", b + "swell ( x ^;",
            b + "swell ( x ^", b + "swell x ^) ;", b + "swell ( ^) ;", b + "swell ^- 1 ;", b + "swell 1 < 2 ^< 3 ;",
            b + "swell 1 = 2 ^< 3 ;", b + "swell x and ^;", b + "swell ^and x", b + "swell x ^not y", b + "swell 3^x",
            b + "swell ^12345", b + "swell x ^/ 2", b + "wish ^fishes", b + "wish hour ^hour",
            b + "swell not not not not not ^;", b + "swell ((((( ^) ;", b + "swell ((((( ^fish", b + "wish ((((( ^bay"};
        for (String text : cantStand) {
            fault(text, 1);
        }
        for (String word : ("bay rock shoal fish boat at hold pull trust cable strong swell wish gales loose"
            + " plain slow oar old keen not and or").split(" ")) {
            fault(b + "boat ^" + word + " plain", 1);
        }
        String[] taken = {b + "rock 1 ^1 ;", b + "rock 2 ^2", b + "rock 3 ^3", b + "shoal 1 ^1", b + "shoal 2 ^2 fish 3 ;",
            b + "boat qq oar at 1 ^1", b + "boat ^pp plain", b + law + "^swell", b + law + "^wish x", b + law + "^gales 99",
            b + law + "^loose ;", b + boatAt("x", 2, 2) + boatAt("far", 0, 0) + "boat ^x old"};
        for (String text : taken) {
            fault(text, 3);
        }
        String[] notAsTold = {"bay ^1 4 ;", "bay ^9 4", "bay 4 ^9999", "bay 2 ^0", b + "rock ^4 1", b + "rock 1 ^5",
            b + "shoal ^4 9", b + "shoal 0 ^5", b + "boat qq slow at ^4 0", b + "boat qq slow at 0 ^5",
            b + "shoal 0 0 fish ^0", b + "shoal 0 0 fish ^100", b + "boat qq slow at 0 0 hold ^100",
            b + "boat qq slow at 0 0 hold 99 pull ^100", b + "boat qq slow at 0 0 hold 99 pull 99 trust ^10",
            b + boatAt("qq", 0, 0) + "cable ^0", b + boatAt("qq", 0, 0) + "cable ^10",
            b + boatAt("qq", 0, 0) + "cable 9 strong ^100", b + "gales ^51", b + "loose ^100"};
        for (String text : notAsTold) {
            fault(text, 4);
        }
        String[] tooMany = {seven + "^boat", seven + " ^boat na plain", "bay 2 2 ; ^cable 1 strong 1 ;", b + "^cable x",
            b + boatAt("qq", 0, 0) + "cable 1 strong 1 ; ^cable", b + "swell not not not not not ^1 ;",
            b + "swell (((((^x", b + "wish not ( not ( not ^fish", b + "swell ((((( ^not", b + "swell not not not not not ^(",
            b + "swell ((((1))) + (not (1 * (^hour"};
        for (String text : tooMany) {
            fault(text, 5);
        }
        String[] good = {"bay 2 8 ;", "bay2 8;", "\nbay\n8\n2\n;\n", b, b + law, b + "swell not not not not 1 ;",
            b + "swell ((((x)))) ;", b + "wish ((((fish+rough)*room)=far)and hour)or x<y ;",
            b + "boat x keen at0 0hold0pull0trust0;boat hour oar at3 3hold99pull99trust9;cable9strong99;",
            b + "boat abcdefgh old at 2 2 hold 0099 pull 0000 trust 0009 ;", seven, b + "gales 0 ; loose 0 ;",
            b + "gales 50 ; loose 99 ;", b + "shoal 3 3 fish 99 ;", b + "shoal 0 0 fish 1 ;", b + "swell 0 ;"};
        for (String text : good) {
            due("3: " + text, Check.tell(new OneCable(), text), 0);
        }
    }

    /** The value of a law of swell at a cell, in an hour. */
    private static void swell(String law, int x, int y, int hour, int want) {
        OneCable c = Check.told("bay 8 8 ; swell " + law + " ;");
        for (int h = 0; h < hour; h++) {
            c.hours(1);
        }
        due("E: " + law + " at " + x + " " + y + ", hour " + hour, c.cell(x, y, 1), want);
    }

    private static void laws() {
        swell("7", 0, 0, 0, 7);
        swell("x", 5, 2, 0, 5);
        swell("y", 5, 2, 0, 2);
        swell("hour", 0, 0, 5, 5);
        swell("hour", 0, 0, 25, 1);
        swell("x + 2 * y", 1, 3, 0, 7);
        swell("( x + 2 ) * y", 1, 3, 0, 9);
        swell("20 - x - y", 5, 2, 0, 13);
        swell("20 - ( x - y )", 5, 2, 0, 17);
        swell("x - y", 2, 5, 0, 0);
        swell("50 * 2", 0, 0, 0, 99);
        swell("98 + 1", 0, 0, 0, 99);
        swell("3 < 4", 0, 0, 0, 1);
        swell("4 < 4", 0, 0, 0, 0);
        swell("x = y", 4, 4, 0, 1);
        swell("x = y", 4, 5, 0, 0);
        swell("1 + 2 < 2 + 2", 0, 0, 0, 1);
        swell("5 and 7", 0, 0, 0, 1);
        swell("5 and 0", 0, 0, 0, 0);
        swell("0 or 9", 0, 0, 0, 1);
        swell("1 or 0 and 0", 0, 0, 0, 0);
        swell("0 and 0 or 1", 0, 0, 0, 1);
        swell("not 3", 0, 0, 0, 0);
        swell("not 0", 0, 0, 0, 1);
        swell("not 0 * 9", 0, 0, 0, 9);
        swell("not ( 0 * 9 ) + 1", 0, 0, 0, 2);
        swell("not not 7", 0, 0, 0, 1);
        swell("( x - 5 ) and 1", 2, 0, 0, 1);
        swell("0 - 1 < 0", 0, 0, 0, 1);
        swell("9999 * 9999 * 9999 < 0", 0, 0, 0, 9999 * 9999 * 9999 < 0 ? 1 : 0);
        swell("9999 * 9999 * 30 < 0", 0, 0, 0, 1);
        swell("9999 * 9999 * 9999 - 9999 * 9999 * 9999 + 3", 0, 0, 0, 3);
        swell("(((8)))", 0, 0, 0, 8);
        due("E: without swell", Check.told("bay 3 3 ;").cell(2, 2, 1), 10);
    }

    private static void boat() {
        OneCable c = Check.told("bay 5 5 ; boat a plain at 0 0 hold 7 pull 3 trust 1 ;"
            + " boat b slow at 1 0 hold 7 pull 3 trust 2 ; boat c oar at 2 0 hold 7 pull 3 trust 3 ;"
            + " boat d old at 3 0 hold 7 pull 3 trust 4 ; boat e keen at 4 1 hold 7 pull 99 trust 5 ; swell 9 ;");
        for (int b = 0; b < 5; b++) {
            due("4: kind " + b, c.boat(b, 0), b);
            due("4: x " + b, c.boat(b, 1), b);
            due("4: y " + b, c.boat(b, 2), b / 4);
            due("4: caught " + b, c.boat(b, 3), 0);
            due("4: hold " + b, c.boat(b, 4), b == 3 ? 3 : 7);
            due("4: force " + b, c.boat(b, 5), b == 2 ? 1 : b == 4 ? 0 : 6);
            due("4: first " + b, c.boat(b, 6), 0);
            due("4: trust " + b, c.boat(b, 7), b + 1);
            due("4: share " + b, c.boat(b, 8), 0);
            due("4: others " + b, c.boat(b, 9), -1);
            due("4: others " + b, c.boat(b, -1), -1);
        }
        due("4: no such boat", c.boat(5, 0), -1);
        due("4: no such boat", c.boat(-1, 0), -1);
    }

    private static void link() {
        OneCable c = Check.told(THREE);
        due("5: long", c.link(0, 0), 2);
        due("5: strong", c.link(1, 1), 3);
        due("5: whole", c.link(1, 2), 0);
        due("5: strain 0", c.link(0, 3), 3);
        due("5: strain 1", c.link(1, 3), 12);
        due("5: others", c.link(0, 4), -1);
        due("5: others", c.link(0, -1), -1);
        due("5: others", c.link(2, 0), -1);
        due("5: others", c.link(-1, 0), -1);
        c.hours(1);
        due("5: torn", c.link(1, 2), 1);
        due("5: strain of a torn one", c.link(1, 3), -1);
        due("5: strain in a smaller part, 2 * 3 - 12", c.link(0, 3), 6);
        OneCable d = Check.told("bay 8 8 ;" + boatAt("a", 0, 0) + boatAt("b", 0, 3) + boatAt("c", 2, 5));
        due("5: told 3 long", d.link(0, 0), 3);
        due("5: told 20 strong", d.link(0, 1), 20);
        due("5: 3 apart is not torn", d.link(0, 2), 0);
        due("5: 4 apart is torn", d.link(1, 2), 1);
        due("5: the same strain is no tear", tornAt(6, 3), 0);
        due("5: more is", tornAt(7, 3), 1);
    }

    /** Forces of f and 0 with a link so strong: whether it is torn behind an hour. */
    private static int tornAt(int force, int strong) {
        OneCable c = Check.told("bay 2 2 ;" + boatAt("a", 0, 0) + " boat b plain at 1 0 hold 0 pull 99 trust 0 ;"
            + " cable 1 strong " + strong + " ; swell " + force + " ;");
        c.hours(1);
        return c.link(0, 2);
    }

    private static void cell() {
        OneCable c = Check.told("bay 3 4 ; rock 2 3 ; shoal 0 1 fish 7 ;" + boatAt("a", 0, 1) + boatAt("b", 1, 1)
            + boatAt("c", 0, 1) + "swell x * 10 + y ;");
        due("6: fish", c.cell(0, 1, 0), 7);
        due("6: no fish", c.cell(1, 1, 0), 0);
        due("6: swell", c.cell(2, 3, 1), 23);
        due("6: rock", c.cell(2, 3, 2), 1);
        due("6: no rock", c.cell(2, 2, 2), 0);
        due("6: boats", c.cell(0, 1, 3), 5);
        due("6: boat", c.cell(1, 1, 3), 2);
        due("6: no boats", c.cell(0, 0, 3), 0);
        due("6: x too great", c.cell(3, 0, 0), -1);
        due("6: y too great", c.cell(0, 4, 0), -1);
        due("6: x too small", c.cell(-1, 0, 0), -1);
        due("6: y too small", c.cell(0, -1, 0), -1);
        due("6: others", c.cell(0, 0, 4), -1);
        due("6: others", c.cell(0, 0, -1), -1);
    }

    private static int at(OneCable c, int boat) {
        return 10 * c.boat(boat, 1) + c.boat(boat, 2);
    }

    private static void order() {
        OneCable c = Check.told("bay 4 4 ; rock 3 2 ;" + boatAt("a", 1, 1) + boatAt("b", 1, 2));
        due("7: true", c.order(1, 4), true);
        due("7: others", c.order(0, 5), false);
        due("7: others", c.order(0, -1), false);
        due("7: others", c.order(2, 1), false);
        due("7: others", c.order(-1, 1), false);
        c.hours(1);
        due("7: west by the second one", at(c, 0), 1);
        c.hours(1);
        due("7: orders are gone", at(c, 0), 1);
        c.order(0, 2);
        c.order(1, 1);
        c.hours(1);
        due("7: the last one counts: north", at(c, 0) * 100 + at(c, 1), 203);
        c.order(0, 1);
        c.hours(1);
        due("7: not out of the bay", at(c, 0), 2);
        c.order(0, 3);
        c.hours(2);
        due("7: south, once", at(c, 0), 1);
        c.order(0, 2);
        c.hours(1);
        c.order(0, 2);
        c.hours(1);
        due("7: east twice", at(c, 0), 21);
        c.order(0, 2);
        c.hours(1);
        due("7: no rock, for all", at(c, 0), 21);
        c.order(0, 3);
        c.order(0, 0);
        c.hours(1);
        due("7: stay", at(c, 0), 21);
        OneCable s = Check.told("bay 8 8 ;" + boatAt("a", 0, 0) + " boat b slow at 1 0 hold 1 pull 1 trust 1 ;"
            + boatAt("c", 7, 7));
        s.order(0, 1);
        s.order(2, 3);
        s.hours(1);
        due("7: slow in hour 0, parts alone", at(s, 1) * 100 + at(s, 2), 1176);
        s.order(0, 1);
        s.order(2, 3);
        s.hours(1);
        due("7: a slow one holds its part in hour 1", at(s, 0) * 100 + at(s, 2), 175);
    }

    private static void hours() {
        OneCable c = Check.told(THREE);
        due("8: others", c.hours(0), -1);
        due("8: others", c.hours(101), -1);
        due("8: others", c.hours(-1), -1);
        due("8: the next one", c.hours(1), 1);
        due("8: tears", c.link(0, 2) * 10 + c.link(1, 2), 1);
        due("8: a", c.boat(0, 3), 5);
        due("8: b", c.boat(1, 3), 1);
        due("8: c", c.boat(2, 3), 0);
        due("8: 1 1", c.cell(1, 1, 0), 6);
        due("8: 2 1", c.cell(2, 1, 0), 1);
        due("8: 3 2 is full", c.cell(3, 2, 0), 9);
        due("8: a hundred", c.hours(100), 101);
        due("8: b has what a has no room for, up to 9", c.boat(1, 3), 9);
        due("8: a is full", c.boat(0, 3), 10);
        OneCable t = Check.told("bay 4 2 ;" + boatAt("a", 0, 0) + boatAt("b", 1, 0) + boatAt("c", 2, 0)
            + " cable 1 strong 3 ; cable 1 strong 3 ; swell ( x = 2 ) * 20 ;");
        t.order(0, 2);
        t.hours(1);
        due("8: goes first, strains then: 20 at b, by one part of three", t.link(0, 2) * 10 + t.link(1, 2), 11);
        OneCable u = Check.told("bay 4 2 ;" + boatAt("a", 0, 0) + boatAt("b", 1, 0)
            + " cable 1 strong 3 ; swell ( hour = 1 ) * x * 20 ;");
        u.hours(1);
        due("8: the swell of hour 0", u.link(0, 2), 0);
        u.hours(1);
        due("8: the swell of hour 1", u.link(0, 2), 1);
    }

    private static void catching() {
        OneCable c = Check.told("bay 8 2 ; boat a keen at 0 0 hold 99 pull 0 trust 0 ;"
            + " boat b old at 0 0 hold 3 pull 0 trust 0 ; shoal 0 0 fish 9 ;");
        c.hours(1);
        due("CATCH: keen 5", c.boat(0, 3), 5);
        due("CATCH: old holds one", c.boat(1, 3), 1);
        due("CATCH: one more", c.cell(0, 0, 0), 4);
        c.hours(1);
        due("CATCH: as far as they go", c.boat(0, 3), 9);
        due("CATCH: none left", c.boat(1, 3), 1);
        due("CATCH: one grows", c.cell(0, 0, 0), 1);
        OneCable d = Check.told("bay 8 2 ; boat a plain at 5 0 hold 3 pull 0 trust 0 ;"
            + " boat b keen at 2 0 hold 99 pull 0 trust 0 ; shoal 4 0 fish 3 ; shoal 3 0 fish 9 ; shoal 2 1 fish 9 ;");
        d.hours(1);
        due("CATCH: swept from the first boat on: 2, then 1 and full", d.boat(0, 3), 3);
        due("CATCH: the other one 1, then 2", d.boat(1, 3), 3);
        due("CATCH: left", d.cell(3, 0, 0) * 10 + d.cell(4, 0, 0), 71);
        OneCable e = Check.told("bay 8 8 ;" + boatAt("a", 0, 0) + boatAt("b", 1, 1) + boatAt("c", 1, 5)
            + " cable 9 strong 99 ; cable 9 strong 99 ; shoal 1 0 fish 9 ; shoal 0 1 fish 9 ; shoal 1 3 fish 9 ;");
        e.hours(1);
        due("CATCH: aslant nothing is swept", e.boat(0, 3), 0);
        due("CATCH: in a column it is", e.boat(1, 3) * 10 + e.boat(2, 3), 22);
    }

    private static void mend() {
        OneCable c = Check.told(THREE);
        due("9: not torn", c.mend(1), false);
        c.hours(1);
        due("9: others", c.mend(2), false);
        due("9: others", c.mend(-1), false);
        due("9: near enough", c.mend(1), true);
        due("9: whole again", c.link(1, 2), 0);
        due("9: one part", c.count(4), 1);
        due("9: twice", c.mend(1), false);
        OneCable d = Check.told("bay 8 8 ;" + boatAt("a", 0, 0) + boatAt("b", 0, 5) + " cable 4 strong 99 ;");
        due("9: too far", d.mend(0), false);
        d.order(1, 3);
        d.hours(1);
        d.order(1, 2);
        due("9: as far as it is long", d.mend(0), true);
        d.hours(1);
        due("9: the part goes by its first boat's order, none", at(d, 1), 4);
    }

    private static void grip() {
        OneCable c = Check.told(THREE);
        due("10: a 3, swept 2 + 1, 2 + 2 in the column", c.grip(0, 0, 0), 10);
        due("10: of its part", c.grip(2, 0, 0), 10);
        due("10: a at 2 1", c.grip(1, 1, 0), 3);
        due("10: not in the bay", c.grip(0, -2, 0), -1);
        due("10: not in the bay", c.grip(0, 0, 5), -1);
        due("10: others", c.grip(3, 0, 0), -1);
        due("10: far off", c.grip(0, Integer.MAX_VALUE, Integer.MIN_VALUE), -1);
        due("10: nothing is done", c.count(5) * 100 + c.count(6), 2000);
        c.hours(1);
        due("10: a part alone, a 3 of 6, swept 1", c.grip(1, 0, 0), 4);
        due("10: the old one alone at 3 2", c.grip(2, 0, -1), 3);
        OneCable r = Check.told("bay 3 3 ; rock 1 0 ;" + boatAt("a", 0, 0));
        due("10: rock", r.grip(0, 1, 0), -1);
        due("10: over rock", r.grip(0, 2, 0), 0);
    }

    private static void moves(OneCable c, int boat, int fish, int... want) {
        due("11: hours", c.soon(boat, fish, -1), want.length);
        for (int i = 0; i < want.length; i++) {
            due("11: move " + i, c.soon(boat, fish, i), want[i]);
        }
        due("11: no more", c.soon(boat, fish, want.length), -1);
    }

    private static void soon() {
        OneCable c = Check.told("bay 5 2 ;" + boatAt("a", 0, 0) + " shoal 2 1 fish 3 ;");
        moves(c, 0, 0);
        moves(c, 0, 3, 1, 2, 2);
        due("11: never", c.soon(0, 4, -1), -1);
        due("11: never, no move", c.soon(0, 4, 0), -1);
        due("11: others", c.soon(0, -1, -1), -1);
        due("11: others", c.soon(0, 1000, -1), -1);
        due("11: others", c.soon(0, 0, -2), -1);
        due("11: others", c.soon(1, 0, -1), -1);
        due("11: nothing is done", at(c, 0) + c.count(3), 0);
        OneCable t = Check.told("bay 4 2 ;" + boatAt("a", 0, 0) + " boat b plain at 0 1 hold 9 pull 50 trust 0 ;"
            + " cable 1 strong 5 ; shoal 2 0 fish 9 ; swell ( x = 1 ) * ( hour < 2 ) * 20 ;");
        moves(t, 1, 3, 0, 0, 2, 2);
        due("11: 20 would be by both rows", t.soon(0, 4, -1), -1);
        String slow = "bay 8 8 ; boat a slow at 0 0 hold 9 pull 0 trust 0 ; shoal ";
        due("11: twelve even hours", Check.told(slow + "7 5 fish 3 ;").soon(0, 3, -1), 23);
        due("11: thirteen are beyond 24", Check.told(slow + "7 6 fish 3 ;").soon(0, 3, -1), -1);
        OneCable s = Check.told(slow + "7 5 fish 3 ;");
        s.hours(1);
        due("11: from an odd hour on", s.soon(0, 3, -1), 24);
        due("11: it stays first", s.soon(0, 3, 0), 0);
        due("11: the first row goes north", s.soon(0, 3, 1), 1);
        due("11: and east at last", s.soon(0, 3, 23), 2);
        OneCable w = Check.told("bay 3 2 ; boat a plain at 0 0 hold 9 pull 0 trust 0 ; rock 1 0 ; rock 1 1 ; shoal 2 0 fish 9 ;");
        due("11: rock between", w.soon(0, 1, -1), -1);
    }

    private static void wish() {
        OneCable c = Check.told("bay 3 3 ; rock 2 1 ;" + boatAt("a", 1, 1) + " boat b old at 1 0 hold 9 pull 0 trust 0 ;"
            + " shoal 1 2 fish 8 ; swell 30 + x ; wish fish + room * 2 + far * 10 + rough - 31 + hour ;");
        due("12: others", c.wish(2, 0), -1);
        due("12: others", c.wish(-1, 0), -1);
        due("12: others", c.wish(0, 5), -1);
        due("12: others", c.wish(0, -1), -1);
        due("12: rock", c.wish(1, 2), -1);
        due("12: not in the bay", c.wish(0, 3), -1);
        due("12: room 4 of an old one", c.wish(1, 0), 8);
        due("12: far 1", c.wish(1, 1), 18);
        due("12: rough is one less in the west", c.wish(1, 4), 17);
        due("12: above 99", c.wish(0, 1), 99);
        c.order(0, 4);
        c.hours(1);
        due("12: far 1 and hour 1 and rough 30", c.wish(1, 0), 18);
        due("12: back home", c.wish(1, 1), 28);
        OneCable n = Check.told("bay 3 3 ;" + boatAt("a", 1, 1) + " wish x - y - 5 ;");
        due("12: below 0", n.wish(0, 0), 0);
        OneCable f = Check.told("bay 3 3 ;" + boatAt("a", 1, 1) + " shoal 1 0 fish 7 ;");
        due("12: without wish, fish", f.wish(0, 3), 7);
    }

    /** a (room 10, trust t) wishes for the east, b (room 0, trust u) for the north. */
    private static OneCable twoWishes(int t, int u, String law) {
        return Check.told("bay 3 3 ; boat a plain at 1 1 hold 10 pull 0 trust " + t + " ; boat b plain at 1 1 hold 0"
            + " pull 0 trust " + u + " ; wish " + law + " ;");
    }

    private static void chosen() {
        String law = "( room = 10 ) * x * 9 + ( room = 0 ) * y * 5";
        due("13: 29 north against 28 east", twoWishes(1, 2, law).chosen(false), 1);
        due("13: by trust the other one", twoWishes(2, 1, law).chosen(false), 2);
        due("13: nobody's, of 0, 3, 4", twoWishes(1, 2, law).chosen(true), 0);
        due("13: no trust, the least", twoWishes(0, 0, law).chosen(false), 0);
        due("13: no trust, nobody's", twoWishes(0, 0, law).chosen(true), 0);
        due("13: all alike", twoWishes(1, 1, "5").chosen(false), 0);
        due("13: all alike, best is to stay", twoWishes(1, 1, "5").chosen(true), 1);
        OneCable k = Check.told("bay 2 2 ; rock 1 0 ; rock 0 1 ;" + boatAt("a", 0, 0));
        due("13: it can but stay", k.chosen(false), 0);
        due("13: none is nobody's", k.chosen(true), -1);
    }

    private static void canGet() {
        String law = "( room = 0 ) * y * 11";
        due("14: 198 for the north: level with it 0, not 2 or 4", twoWishes(1, 9, law).canGet(0), 3);
        due("14: with more trust all", twoWishes(3, 9, law).canGet(0), 31);
        due("14: no trust, what is chosen", twoWishes(0, 9, law).canGet(0), 2);
        due("14: the other one", twoWishes(1, 9, law).canGet(1), 31);
        due("14: no such boat", twoWishes(1, 9, law).canGet(2), -1);
        due("14: no such boat", twoWishes(1, 9, law).canGet(-1), -1);
        OneCable k = Check.told("bay 2 2 ;" + boatAt("a", 0, 0));
        due("14: only those that can be", k.canGet(0), 7);
    }

    private static void worth() {
        OneCable c = Check.told(THREE);
        due("15: a alone", c.worth(0, 0), 3);
        due("15: b alone", c.worth(1, 1), 0);
        due("15: a and b", c.worth(0, 1), 6);
        due("15: b and c", c.worth(1, 2), 4);
        due("15: all", c.worth(0, 2), 10);
        due("15: others", c.worth(1, 0), -1);
        due("15: others", c.worth(0, 3), -1);
        due("15: others", c.worth(-1, 0), -1);
        due("15: nothing is done", c.count(6), 0);
        OneCable d = Check.told("bay 8 2 ;" + boatAt("a", 0, 0) + boatAt("b", 4, 0) + " shoal 2 0 fish 9 ;");
        due("15: a torn link sweeps nothing", d.worth(0, 1), 0);
    }

    private static void sharing() {
        OneCable c = Check.told(THREE);
        due("17: a alone has 0 of 3", c.leaves(), 0);
        due("16: true", c.share(0, 3), true);
        due("16: kept", c.boat(0, 8), 3);
        due("17: a and b have 3 of 6", c.leaves(), 1);
        due("16: others", c.share(0, -1), false);
        due("16: others", c.share(0, 1000), false);
        due("16: others", c.share(3, 1), false);
        due("16: others", c.share(-1, 1), false);
        c.share(1, 3);
        due("17: all have 6 of 10", c.leaves(), 2);
        c.share(0, 999);
        due("17: b and c have 3 of 4", c.leaves(), 12);
        c.share(2, 1);
        due("17: none", c.leaves(), -1);
        c.hours(1);
        due("16: shares stay by the hour", c.boat(0, 8), 999);
        Check.tell(c, THREE);
        due("16: a new bay has none", c.boat(0, 8), 0);
    }

    private static void fair() {
        OneCable c = Check.told(THREE);
        due("18: a", c.fair(0), 3);
        due("18: b", c.fair(1), 3);
        due("18: c", c.fair(2), 4);
        due("18: others", c.fair(3), -1);
        due("18: others", c.fair(-1), -1);
        OneCable d = Check.told("bay 4 2 ;" + boatAt("a", 1, 0) + boatAt("b", 1, 0) + " shoal 1 0 fish 4 ;");
        due("18: 3 and 3 of 4 are not given", d.fair(0), -1);
        OneCable e = Check.told("bay 4 2 ;" + boatAt("a", 0, 0) + boatAt("b", 2, 0) + " shoal 1 0 fish 4 ;");
        due("18: the first one gets the least", e.fair(0) * 10 + e.fair(1), 4);
    }

    private static OneCable twoInStorm(int pullA, int pullB) {
        return Check.told("bay 2 2 ; boat a plain at 0 0 hold 0 pull " + pullA + " trust 0 ; boat b plain at 1 0 hold 0"
            + " pull " + pullB + " trust 0 ; cable 1 strong 3 ; swell x * 10 ;");
    }

    private static void storm() {
        OneCable c = twoInStorm(0, 5);
        due("19: 5 - 6", Check.storm(c, -1), -1);
        due("19: a first", Check.storm(c, 0) * 10 + Check.storm(c, 1), 1);
        OneCable d = twoInStorm(5, 0);
        due("19: laid anew", Check.storm(d, -1), -1);
        due("19: b first", Check.storm(d, 0) * 10 + Check.storm(d, 1), 10);
        due("19: equal ones", Check.storm(twoInStorm(4, 4), 0), 0);
        due("19: others", Check.storm(c, 2), THROWN);
        due("19: others", Check.storm(c, -2), THROWN);
        due("19: one boat", Check.storm(Check.told("bay 2 2 ;" + boatAt("a", 0, 0)), -1), THROWN);
        OneCable e = Check.told("bay 8 2 ; boat a plain at 0 0 hold 0 pull 5 trust 0 ; boat b plain at 7 0 hold 0"
            + " pull 0 trust 0 ; cable 1 strong 3 ; swell ( x = 7 ) * 10 ;");
        due("19: as if none were torn", Check.storm(e, 0), 1);
        due("19: nothing is done", e.boat(0, 1), 0);
    }

    private static void join() {
        OneCable c = Check.told("bay 3 3 ; rock 2 2 ;" + boatAt("a", 0, 0));
        due("20: level", c.join(1, 0, 0), 0);
        due("20: 3 of 2 boats, 2 at least", c.join(1, 0, 3), 2);
        due("20: 10 of 2 boats", c.join(1, 0, 10), 5);
        due("20: no less than 0", c.join(1, 0, 99), 5);
        due("20: rock", c.join(2, 2, 0), -1);
        due("20: not in the bay", c.join(3, 0, 0), -1);
        due("20: others", c.join(0, 0, -1), -1);
        due("20: others", c.join(0, 0, 100), -1);
        due("20: nothing is done", c.count(2), 1);
        OneCable d = Check.told("bay 3 3 ;" + boatAt("a", 0, 0) + boatAt("b", 1, 0) + " cable 3 strong 0 ;");
        due("20: another one would tear", d.join(1, 0, 1), -1);
        due("20: it would not", d.join(1, 0, 0), 0);
        OneCable e = Check.told("bay 3 3 ;" + boatAt("a", 0, 0) + boatAt("b", 2, 0) + " cable 1 strong 0 ;");
        due("20: a torn one is not of its part", e.join(1, 0, 10), 5);
        String six = "bay 3 3 ;";
        for (int b = 0; b < 6; b++) {
            six += boatAt("" + (char) ('a' + b), 0, 0);
        }
        due("20: a seventh", Check.told(six).join(0, 0, 0), 0);
        due("20: 7 are there", Check.told(six + boatAt("g", 0, 0)).join(0, 0, 0), -1);
    }

    private static void seasons() {
        OneCable c = Check.told("bay 3 3 ;" + boatAt("a", 0, 0) + " boat b plain at 1 0 hold 0 pull 99 trust 0 ;"
            + " cable 1 strong 10 ; gales 50 ; loose 15 ; swell 0 ;");
        int[] loose = {0, 1, 1, 2, 3};
        int[] torn = {0, 1, 1, 2, 3};
        for (int days = 1; days <= 5; days++) {
            due("21: loose, gales 8, 46, 15, 22, 43", c.seasons(1, days, 1), loose[days - 1]);
            due("21: on the cable, torn above 20", c.seasons(1, days, 0), torn[days - 1]);
        }
        due("21: nothing is done", c.link(0, 2) + c.count(3), 0);
        OneCable d = Check.told("bay 3 3 ;" + boatAt("a", 0, 0) + boatAt("b", 1, 0) + " gales 0 ; loose 9 ; swell hour = 23 * 1 ;");
        due("21: one hour of the day, 1 is not above 9", d.seasons(7, 9, 1), 0);
        OneCable e = Check.told("bay 3 3 ;" + boatAt("a", 0, 0) + boatAt("b", 1, 0)
            + " cable 1 strong 4 ; gales 0 ; loose 9 ; swell ( hour = 23 ) * 10 * x ;");
        due("21: each once a day", e.seasons(7, 9, 1), 9);
        due("21: days on the cable", e.seasons(7, 99, 0), 99);
        OneCable f = Check.told("bay 3 3 ;" + boatAt("a", 0, 0) + " gales 50 ; loose 98 ; swell 90 ;");
        due("21: 99 at most, above 98 by 46, 15, 22, 43", f.seasons(1, 5, 1), 4);
        due("21: others", c.seasons(-1, 1, 0), -1);
        due("21: others", c.seasons(10000, 1, 0), -1);
        due("21: others", c.seasons(0, 0, 0), -1);
        due("21: others", c.seasons(0, 100, 0), -1);
        due("21: others", c.seasons(0, 1, 2), -1);
        due("21: others", c.seasons(0, 1, -1), -1);
        due("21: edges", c.seasons(9999, 99, 0) >= 0, true);
    }

    private static void mark() {
        OneCable c = Check.told(THREE);
        due("22: none such", c.mark(4, false), false);
        due("22: none such", c.mark(-1, false), false);
        due("22: nothing on it", c.mark(3, true), false);
        c.order(0, 1);
        c.share(1, 7);
        due("22: laid", c.mark(3, false), true);
        c.hours(3);
        c.share(1, 8);
        Check.feed(c, "bay 3");
        due("22: back", c.mark(3, true), true);
        due("22: the hour", c.count(3), 0);
        due("22: caught", c.count(6), 0);
        due("22: fish", c.count(5), 20);
        due("22: the links", c.link(1, 2), 0);
        due("22: the share", c.boat(1, 8), 7);
        due("22: the tape is not of it", c.count(9), 5);
        c.hours(1);
        due("22: the order", at(c, 0), 12);
        due("22: others are empty", c.mark(0, true), false);
        due("22: once more", c.mark(3, true), true);
        due("22: back again", at(c, 0), 11);
        c.hours(2);
        c.mark(3, false);
        c.hours(2);
        c.mark(3, true);
        due("22: laid over", c.count(3), 2);
        due("22: a fault", c.bay() != 0, true);
        due("22: leaves it", c.mark(3, true), true);
        Check.tell(c, THREE);
        due("22: a new bay has none", c.mark(3, true), false);
    }

    private static void count() {
        OneCable c = Check.told(THREE + " gales 7 ; loose 8 ;");
        Check.feed(c, "abc");
        int[] before = {8, 8, 3, 0, 1, 20, 0, 7, 8, 3};
        int[] behind = {8, 8, 3, 1, 2, 16, 6, 7, 8, 3};
        for (int what = 0; what < before.length; what++) {
            due("23: what " + what, c.count(what), before[what]);
        }
        c.hours(1);
        for (int what = 0; what < before.length; what++) {
            due("23: behind an hour, what " + what, c.count(what), behind[what]);
        }
        due("23: another", c.count(10), -1);
        due("23: another", c.count(-1), -1);
    }

    /** No argument makes a call throw, but storm as told. */
    private static void strange() {
        OneCable[] cables = {new OneCable(), Check.told(THREE)};
        for (OneCable c : cables) {
            for (int p : STRANGE) {
                for (int q : STRANGE) {
                    c.boat(p, q);
                    c.link(p, q);
                    c.order(p, q);
                    c.wish(p, q);
                    c.worth(p, q);
                    c.share(p, q);
                    for (int r : STRANGE) {
                        c.cell(p, q, r);
                        c.grip(p, q, r);
                        c.soon(p, q, r);
                        c.join(p, q, r);
                        c.seasons(p, q, r);
                    }
                }
                c.mend(p);
                c.canGet(p);
                c.fair(p);
                c.count(p);
                c.mark(p, true);
                c.mark(p, false);
                Check.storm(c, p);
                c.hours(p);
                c.feed(p, (long) p << 32, ~p);
            }
            due("strange: the hour", c.count(3), 1 + 2 + 3 + 6 + 7 + 8 + 99 + 100);
        }
    }
}
