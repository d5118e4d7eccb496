/** Sentences on E, the laws of swell and of wishes. */
final class LawEdges extends Edges {
    /** 2147483647 of numbers that are 9999 at most. */
    private static final String MOST = "9999 * 9999 * 21 + 4790 * 9999 + 8416";
    /** -2147483648, by a product that wraps. */
    private static final String LEAST = "8192 * 8 * 4096 * 8";

    LawEdges(Check check) {
        super(check);
    }

    @Override
    void run() {
        andOr();
        tests();
        sums();
        depth();
        facts();
        wishFacts();
        truth();
        toldAnew();
        wraps();
        without();
        swellEdges();
    }

    private static int swell(String law, int x, int y) {
        return Check.told("bay 8 8 ; swell " + law + " ;").cell(x, y, 1);
    }

    private void law(String law, int want) {
        due(law, swell(law, 0, 0), want);
    }

    private void andOr() {
        says("E: TEST { and TEST or or TEST }, from the left;");
        law("1 or 1 and 0", 0);
        law("0 and 0 or 1", 1);
        law("0 and 1 or 1 and 0 or 1", 1);
        law("1 or 0 and 0 or 0", 0);
        law("1 and 1 and 0", 0);
        law("0 or 0 or 1", 1);
        law("7", 7);
        fault("bay 2 2 ; swell ^and 1 ;", 1);
        fault("bay 2 2 ; swell 1 and ^or 1 ;", 1);
        fault("bay 2 2 ; swell 1 or ^;", 1);
        fault("bay 2 2 ; swell 1 and^", 1);
        StringBuilder many = new StringBuilder("1");
        for (int i = 0; i < 160; i++) {
            many.append(" and 1");
        }
        law(many.toString(), 1);
        law(many + " and 0", 0);
    }

    private void tests() {
        says("TEST: SUM, or SUM < SUM, or SUM = SUM;");
        law("1 + 1 < 1 + 2", 1);
        law("1 + 2 < 1 + 2", 0);
        law("1 + 3 < 1 + 2", 0);
        law("1 + 2 = 2 + 1", 1);
        law("1 + 2 = 2 + 2", 0);
        law("0 < 1 and 1 < 1", 0);
        law("( 2 < 1 ) < 1", 1);
        fault("bay 2 2 ; swell 1 < 2 ^< 3 ;", 1);
        fault("bay 2 2 ; swell 1 < 2 ^= 1 ;", 1);
        fault("bay 2 2 ; swell 1 = 2 ^< 3 ;", 1);
        fault("bay 2 2 ; swell 1 = 1 ^= 1 ;", 1);
        fault("bay 2 2 ; swell 1 < ^= 1 ;", 1);
        fault("bay 2 2 ; swell ^< 1 ;", 1);
        fault("bay 2 2 ; swell 1 = ^;", 1);
        good("bay 2 2 ; swell 1 < 2 and 2 = 3 or 3 < 4 ;");
    }

    private void sums() {
        says("SUM: PRODUCT { + or - PRODUCT }; PRODUCT: PART { * PART };");
        law("9 - 3 - 2", 4);
        law("9 - 3 + 2", 8);
        law("9 - ( 3 + 2 )", 4);
        law("2 + 3 * 4", 14);
        law("2 * 3 + 4", 10);
        law("( 2 + 3 ) * 4", 20);
        law("2 * 2 * 2 * 2", 16);
        law("90 - 2 * 3 * 5 - 1", 59);
        fault("bay 2 2 ; swell ^+ 1 ;", 1);
        fault("bay 2 2 ; swell ^- 1 ;", 1);
        fault("bay 2 2 ; swell 1 - ^- 1 ;", 1);
        fault("bay 2 2 ; swell 1 * ^* 1 ;", 1);
        fault("bay 2 2 ; swell 1 + ^;", 1);
        says("PART: a NUMBER, a fact, not PART, ( E );");
        law("0", 0);
        law("not 0 + 1", 2);
        law("not 0 * 5", 5);
        law("not not 5", 1);
        law("not ( 1 - 1 )", 1);
        law("( 1 < 2 or 0 ) + 4", 5);
        fault("bay 2 2 ; swell ( ^) ;", 1);
        fault("bay 2 2 ; swell ( 1 ^;", 1);
        fault("bay 2 2 ; swell 1 ^) ;", 1);
        fault("bay 2 2 ; swell ^) ;", 1);
        fault("bay 2 2 ; swell 1 ^1 ;", 1);
        fault("bay 2 2 ; swell 1 ^( 1 ) ;", 1);
        fault("bay 2 2 ; swell not ^;", 1);
        fault("bay 2 2 ; swell 1 ^not 1 ;", 1);
        fault("bay 2 2 ; swell ^;", 1);
        fault("bay 2 2 ; swell^", 1);
    }

    private void depth() {
        says("no PART lies within 5 of not and ( ).");
        law("not not not not 1", 1);
        law("( ( ( ( 8 ) ) ) )", 8);
        law("not ( not ( 0 ) )", 0);
        law("( ( ( ( 8 ) ) ) ) + not not not not 3 + ( ( ( ( 8 ) ) ) )", 17);
        law("( 1 + ( 2 + ( 3 + ( 4 * 5 ) * 2 ) ) )", 46);
        law("1 or 1 < 1 + 2 * ( 0 or 1 < 1 + 2 * ( 0 or 1 < 1 + 2 * ( 0 or 1 < 1 + 2 * ( 0 or 1 < 1 + 2 * 3 ) ) ) )", 1);
        fault("bay 2 2 ; swell not not not not not ^1 ;", 5);
        fault("bay 2 2 ; swell ( ( ( ( ( ^8 ) ) ) ) ) ;", 5);
        fault("bay 2 2 ; swell ( not ( not ( ^8 ) ) ) ;", 5);
        fault("bay 2 2 ; swell ( ( ( ( 8 ) ) ) ) + ( ( ( ( ( ^8", 5);
        fault("bay 2 2 ; swell ( 1 + ( 1 + ( 1 + ( 1 + ( ^1", 5);
        fault("bay 2 2 ; swell ( ( ( ( 1 ) * not not ^1", 5);
        fault("bay 2 2 ; swell " + "( ".repeat(5) + "^" + "( ".repeat(480), 5);
        fault("bay 2 2 ; swell " + "not ".repeat(5) + "^" + "not ".repeat(240), 5);
    }

    private void facts() {
        says("Facts: x, y (of the CELL), hour (modulo 24);");
        for (int cell = 0; cell < 64; cell++) {
            due("x", swell("x", cell % 8, cell / 8), cell % 8);
            due("y", swell("y", cell % 8, cell / 8), cell / 8);
        }
        OneCable all = Check.told("bay 8 8 ; swell x + y * 10 + hour ;");
        for (int hour = 0; hour < 2; hour++) {
            for (int cell = 0; cell < 64; cell++) {
                due("x and y", all.cell(cell % 8, cell / 8, 1), cell % 8 + cell / 8 * 10 + hour);
            }
            all.hours(1);
        }
        OneCable c = Check.told("bay 2 2 ; swell hour ;");
        for (int hour = 0; hour < 75; hour++) {
            due("hour " + hour, c.cell(0, 0, 1), hour % 24);
            due("the hour itself is not cut", c.count(3), hour);
            c.hours(1);
        }
        for (String fact : new String[] {"fish", "rough", "room", "far", "a", "trust", "boat"}) {
            fault("bay 2 2 ;" + plain("a", 0, 0) + " swell ^" + fact + " ;", 1);
        }
        for (String word : new String[] {"a", "trust", "boat", "pull", "hours"}) {
            fault("bay 2 2 ;" + plain("a", 0, 0) + " wish ^" + word + " ;", 1);
        }
    }

    private static int wish(OneCable c, String law, int way) {
        Check.tell(c, "bay 4 4 ; shoal 1 2 fish 4 ;" + boat("a", "keen", 1, 1, 6, 0, 1) + " swell 101 - x - y * 9 ; wish "
            + law + " ;");
        return c.wish(0, way);
    }

    private void wishFacts() {
        says("in wish also fish (there now), rough (the SWELL there), room (in its hold),"
            + " far (|x - x| + |y - y| from where the BOAT was told).");
        OneCable c = new OneCable();
        due("fish to the north", wish(c, "fish", 1), 4);
        due("no fish here", wish(c, "fish", 0), 0);
        due("rough: 101 - 1 - 9", wish(c, "rough", 0), 91);
        due("rough in the south: 99, not 100", wish(c, "rough", 3), 99);
        due("rough to the east", wish(c, "rough", 2), 90);
        due("room", wish(c, "room", 0), 6);
        due("far at home", wish(c, "far", 0), 0);
        for (int way = 1; way < 5; way++) {
            due("far by " + way, wish(c, "far", way), 1);
        }
        due("x to the west", wish(c, "x", 4), 0);
        due("y to the south", wish(c, "y", 3), 0);
        due("hour", wish(c, "hour", 0), 0);
        OneCable later = Check.told("bay 2 2 ; swell hour * 2 ; wish rough + hour ;" + plain("a", 0, 0));
        for (int hour = 0; hour < 60; hour++) {
            due("rough and hour in hour " + hour, later.wish(0, 0), hour % 24 * 3);
            later.hours(1);
        }
        wish(c, "fish * 10 + room", 0);
        c.order(0, 1);
        c.hours(1);
        due("none of 4 left, one grew, 2 of 6 room", c.wish(0, 0), 12);
        wish(c, "far * 10 + hour", 0);
        c.order(0, 2);
        c.hours(1);
        c.order(0, 1);
        c.hours(23);
        due("far 3 in the corner, hour 24 is 0", c.wish(0, 2), 30);
        due("nearer to home", c.wish(0, 4), 10);
        OneCable home = Check.told("bay 8 8 ;" + plain("a", 5, 2) + " wish far ;");
        int[] ways = {2, 2, 3, 4, 4, 1, 1};
        for (int way : ways) {
            home.order(0, way);
            home.hours(1);
        }
        due("one to the north of home", home.wish(0, 0), 1);
        due("there", at(home, 0), 53);
        due("home is to the south", home.wish(0, 3), 0);
        due("to the east 2", home.wish(0, 2), 2);
        due("rough 0 below it", roughOf("0 - 5"), 0);
        due("room 0", roomFull(), 0);
    }

    private static int roughOf(String swell) {
        return Check.told("bay 2 2 ;" + plain("a", 0, 0) + "swell " + swell + " ; wish rough ;").wish(0, 0);
    }

    private static int roomFull() {
        OneCable c = Check.told("bay 2 2 ; shoal 0 0 fish 9 ;" + boat("a", "old", 0, 0, 5, 0, 0) + " wish room ;");
        c.hours(1);
        return c.wish(0, 0);
    }

    private void truth() {
        says("Of not, and, or, < and = comes 1 or 0; what is not 0 is so;");
        law("not 5", 0);
        law("not 0", 1);
        law("not ( 0 - 5 )", 0);
        law("7 and 9", 1);
        law("7 or 9", 1);
        law("0 or 9", 1);
        law("9 or 0", 1);
        law("0 and 9", 0);
        law("9 and 0", 0);
        law("0 or 0", 0);
        law("( 0 - 1 ) and ( 0 - 2 )", 1);
        law("0 or 0 - 2", 1);
        law("2 < 9", 1);
        law("9 = 9", 1);
        law("0 = 0", 1);
        law("( 5 and 5 ) + ( 5 or 5 ) + ( 5 = 5 ) + ( 5 < 6 ) + not 0", 5);
        law("10 + ( 0 or 0 )", 10);
        law("10 + ( 0 and 5 )", 10);
        law("10 + ( 6 < 5 )", 10);
        law("10 + ( 5 = 6 )", 10);
        law("10 + not 5", 10);
        law("0 - 1 < 0", 1);
        law("0 < 0 - 1", 0);
    }

    /** A law that was told before, and was longer, leaves nothing behind. */
    private void toldAnew() {
        says("Without a FAULT it is the BAY from then on:");
        OneCable c = new OneCable();
        for (String law : new String[] {"not 9", "7", "1 + not 2", "7 + 8", "x = 0 and not y", "3"}) {
            due(law, Check.tell(c, "bay 2 2 ; swell " + law + " ; wish " + law + " ;" + plain("a", 0, 0)), 0);
            int want = law.equals("not 9") ? 0 : law.equals("7") ? 7 : law.equals("7 + 8") ? 15 : law.equals("3") ? 3 : 1;
            due("swell " + law, c.cell(0, 0, 1), want);
            due("wish " + law, c.wish(0, 0), want);
        }
    }

    private void wraps() {
        says("ints wrap.");
        law(MOST + " < 0", 0);
        law(MOST + " = 8191 * 8 * 4096 * 8 + 8 * 4096 * 8 - 1", 1);
        law(MOST + " + 1 < 0", 1);
        law(MOST + " + 1 = " + LEAST, 1);
        law(LEAST + " < 0", 1);
        law(LEAST + " - 1 < 0", 0);
        law(LEAST + " - 1 = " + MOST, 1);
        law("0 - ( " + LEAST + " ) < 0", 1);
        law("( " + LEAST + " ) * 2 = 0", 1);
        law("8192 * 8 * 8192 * 8 = 0", 1);
        law("8192 * 8 * 8192 * 8 + 5", 5);
        law("not ( " + LEAST + " )", 0);
        law(LEAST + " < " + MOST, 1);
        law(MOST + " < " + LEAST, 0);
        law(LEAST, 0);
        law(MOST, 99);
        law(LEAST + " - 1", 99);
        law(MOST + " + 1", 0);
        law("9999 * 9999 * 9999 - 9999 * 9999 * 9999 + 3", 3);
    }

    private void without() {
        says("Without swell: 10; without wish: fish.");
        OneCable c = Check.told("bay 8 8 ; shoal 7 7 fish 99 ; shoal 6 6 fish 1 ;" + plain("a", 7, 6));
        due("swell", c.cell(0, 0, 1) * 100 + c.cell(7, 7, 1), 1010);
        c.hours(23);
        due("swell in hour 23", c.cell(3, 3, 1), 10);
        due("wish north", c.wish(0, 1), 99);
        due("wish west", c.wish(0, 4), 1);
        due("wish to stay", c.wish(0, 0), 0);
        OneCable told = Check.told("bay 8 8 ; wish 3 ;" + plain("a", 0, 0));
        due("swell without, wish told", told.cell(0, 0, 1) * 10 + told.wish(0, 0), 103);
        Check.tell(told, "bay 8 8 ; swell 4 ;" + plain("a", 0, 0));
        due("swell told, wish without", told.cell(0, 0, 1) * 10 + told.wish(0, 0), 40);
    }

    private void swellEdges() {
        says("SWELL at a CELL: the E of swell in the HOUR, 0 below it, 99 above.");
        law("0 - 9999", 0);
        law("0 - 1", 0);
        law("0", 0);
        law("1", 1);
        law("98", 98);
        law("99", 99);
        law("100", 99);
        law("9999", 99);
        OneCable c = Check.told("bay 2 2 ; swell 97 + hour - x * 98 ;");
        int[] here = {97, 98, 99, 99};
        int[] there = {0, 0, 1, 2};
        for (int hour = 0; hour < 4; hour++) {
            due("hour " + hour, c.cell(0, 0, 1), here[hour]);
            due("hour " + hour + " in the east", c.cell(1, 0, 1), there[hour]);
            c.hours(1);
        }
    }
}
