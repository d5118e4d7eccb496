import java.util.function.IntUnaryOperator;

/** What promises 4 to 10, 16, 22 and 23 say of the calls themselves, and of refused ones. */
final class CallEdges extends Edges {
    /** Forces 3, 9, 0, as the swell is 6 + x. */
    private static final String THREE = "bay 7 6 ; rock 6 5 ; shoal 1 1 fish 8 ; shoal 2 1 fish 3 ;"
        + boat("a", "plain", 1, 1, 10, 4, 2) + boat("b", "keen", 3, 1, 9, 0, 1) + boat("c", "old", 3, 3, 9, 10, 0)
        + " cable 2 strong 5 ; cable 4 strong 3 ; swell 6 + x ; gales 7 ; loose 8 ;";

    CallEdges(Check check) {
        super(check);
    }

    @Override
    void run() {
        boats();
        seven();
        links();
        cells();
        orders();
        hours();
        mends();
        grips();
        gripOfNow();
        shares();
        marks();
        marksHold();
        counts();
        manyCalls();
    }

    private void none(String what, IntUnaryOperator call, int... arguments) {
        for (int argument : arguments) {
            due(what + " " + argument, call.applyAsInt(argument), -1);
        }
        for (int argument : FAR_OFF) {
            due(what + " " + argument, call.applyAsInt(argument), -1);
        }
    }

    private void boats() {
        says("Of a BOAT, what 0: its KIND (0 plain, 1 slow, 2 oar, 3 old, 4 keen), 1: x, 2: y, 3: what it has caught,"
            + " 4: what its hold holds, 5: FORCE, 6: the first BOAT of its PART, 7: trust, 8: its share; NONE: others.");
        OneCable c = Check.told(THREE);
        c.share(0, 999);
        int[][] want = {{0, 1, 1, 0, 10, 3, 0, 2, 999}, {4, 3, 1, 0, 9, 9, 0, 1, 0}, {3, 3, 3, 0, 4, 0, 0, 0, 0}};
        for (int b = 0; b < 3; b++) {
            for (int what = 0; what < 9; what++) {
                due("boat " + b + " what " + what, c.boat(b, what), want[b][what]);
            }
        }
        c.hours(1);
        due("caught 3 and 2 of link 0", c.boat(0, 3), 5);
        due("the first of its part behind a tear", c.boat(2, 6), 2);
        for (int what = 0; what < 9; what++) {
            int asked = what;
            none("what " + what + " of boat", b -> c.boat(b, asked), -1, 3, 4, 7);
        }
        for (int b = 0; b < 3; b++) {
            int asked = b;
            none("boat " + b + " what", what -> c.boat(asked, what), -1, 9, 10);
        }
        OneCable empty = new OneCable();
        none("no boat at all", b -> empty.boat(b, 0), 0, -1, 1);
        OneCable seven = Check.told("bay 2 2 ;" + boats(7));
        due("the seventh", seven.boat(6, 4), 99);
        none("an eighth", b -> seven.boat(b, 4), 7, 8, -1);
        OneCable kinds = Check.told("bay 2 2 ;" + boat("a", "plain", 0, 0, 0, 0, 0) + boat("b", "slow", 0, 0, 0, 0, 0)
            + boat("c", "oar", 0, 0, 0, 0, 0) + boat("d", "old", 0, 0, 0, 0, 0) + boat("e", "keen", 0, 0, 0, 0, 0));
        for (int kind = 0; kind < 5; kind++) {
            due("kind", kinds.boat(kind, 0), kind);
        }
    }

    /** All of seven boats, told twice on one object, so that nothing of the first ones stays. */
    private void seven() {
        OneCable c = new OneCable();
        String[] kinds = {"plain", "slow", "oar", "old", "keen"};
        for (int round = 0; round < 3; round++) {
            StringBuilder text = new StringBuilder("bay 8 8 ; swell 99 - hour ;");
            for (int b = 0; b < 7; b++) {
                int seed = b + round;
                text.append(boat("n" + (char) ('a' + b), kinds[seed % 5], seed % 8, (b * 2 + round) % 8, 20 + seed, 2 * seed,
                    (b + 3 * round) % 10));
            }
            due("told", Check.tell(c, text.toString()), 0);
            for (int hour = 0; hour < 2; hour++) {
                for (int b = 0; b < 7; b++) {
                    int kind = (b + round) % 5;
                    int pull = 2 * (b + round) + (kind == 2 ? 5 : 0);
                    int hold = 20 + b + round;
                    int[] want = {kind, (b + round) % 8, (b * 2 + round) % 8, 0, kind == 3 ? hold / 2 : hold, 99 - hour - pull};
                    for (int what = 0; what < want.length; what++) {
                        due("boat " + b + " what " + what + " of round " + round, c.boat(b, what), want[what]);
                    }
                    due("trust", c.boat(b, 7), (b + 3 * round) % 10);
                    due("share", c.boat(b, 8), 0);
                }
                c.hours(1);
            }
            c.share(6, 99);
        }
    }

    private void links() {
        says("Of a LINK, what 0: how long, 1: how strong, 2: 1 if it is TORN, 3: STRAIN (NONE: TORN); NONE: others.");
        OneCable c = Check.told(THREE);
        OneCable later = Check.told("bay 2 8 ;" + plain("a", 0, 0) + boat("b", "plain", 0, 1, 0, 9, 0) + " swell hour * 3 ;");
        int[] strains = {0, 3, 6, 9, 9, 9};
        for (int hour = 0; hour < strains.length; hour++) {
            due("strain in hour " + hour, later.link(0, 3), strains[hour]);
            later.hours(1);
        }
        int[][] want = {{2, 5, 0, 3}, {4, 3, 0, 12}};
        int[][] behind = {{2, 5, 0, 6}, {4, 3, 1, -1}};
        for (int link = 0; link < 2; link++) {
            for (int what = 0; what < 4; what++) {
                due("link " + link + " what " + what, c.link(link, what), want[link][what]);
            }
        }
        c.hours(1);
        for (int link = 0; link < 2; link++) {
            for (int what = 0; what < 4; what++) {
                due("behind an hour, link " + link + " what " + what, c.link(link, what), behind[link][what]);
                int asked = what;
                none("what " + what + " of link", l -> c.link(l, asked), -1, 2, 3, 6, 7);
            }
            int asked = link;
            none("link " + link + " what", what -> c.link(asked, what), -1, 4, 5);
        }
        OneCable one = Check.told("bay 2 2 ;" + boats(1));
        none("one boat has no link", l -> one.link(l, 0), 0, 1, -1);
        OneCable seven = Check.told("bay 2 2 ;" + boats(7));
        due("the sixth", seven.link(5, 0), 3);
        none("a seventh", l -> seven.link(l, 0), 6, 7, -1);
    }

    private void cells() {
        says("Of a CELL, what 0: fish, 1: SWELL, 2: 1 if it is rock, 3: BOATS there, as bits; NONE: others.");
        OneCable c = Check.told(THREE);
        due("fish", c.cell(1, 1, 0), 8);
        due("no fish", c.cell(1, 2, 0), 0);
        due("fish on rock", c.cell(6, 5, 0), 0);
        due("swell on rock", c.cell(6, 5, 1), 12);
        due("rock", c.cell(6, 5, 2), 1);
        due("no rock", c.cell(5, 5, 2) + c.cell(6, 4, 2), 0);
        due("boat 0", c.cell(1, 1, 3), 1);
        due("boat 2", c.cell(3, 3, 3), 4);
        due("boat 1", c.cell(3, 1, 3), 2);
        due("no boats", c.cell(0, 0, 3) + c.cell(1, 3, 3) + c.cell(2, 1, 3) + c.cell(3, 2, 3), 0);
        for (int what = 0; what < 4; what++) {
            int asked = what;
            due("the corner", c.cell(6, 5, what) >= 0, true);
            due("the other corner", c.cell(0, 0, what) >= 0, true);
            none("x", x -> c.cell(x, 0, asked), -1, 7, 8);
            none("y", y -> c.cell(0, y, asked), -1, 6, 7, 8);
            none("both", xy -> c.cell(xy, xy, asked), -1, 6, 7, 8);
        }
        none("what", what -> c.cell(0, 0, what), -1, 4, 5);
        due("seven boats on one cell", Check.told("bay 2 2 ;" + boats(7)).cell(0, 0, 3), 127);
        OneCable wide = Check.told("bay 8 2 ; shoal 0 1 fish 5 ;");
        none("8 0 is not 0 1", x -> wide.cell(x, 0, 0), 8);
        none("-8 1 is not 0 0", x -> wide.cell(x, 1, 0), -8);
    }

    private void orders() {
        says("An ORDER for the PART of a BOAT: true; false: others.");
        OneCable c = Check.told("bay 5 5 ;" + plain("a", 2, 2) + plain("b", 2, 1));
        for (int b = 0; b < 2; b++) {
            for (int way = 0; way < 5; way++) {
                due("order " + b + " " + way, c.order(b, way), true);
            }
        }
        c.order(0, 1);
        for (int other : new int[] {-1, 2, 3, 7, MIN, MAX}) {
            due("no boat " + other, c.order(other, 2), false);
        }
        for (int way : new int[] {-1, 5, 6, MIN, MAX}) {
            due("no way " + way, c.order(0, way), false);
            due("no way " + way, c.order(1, way), false);
        }
        c.hours(1);
        due("the order before the refused ones stood", at(c, 0), 23);
        due("no boat at all", new OneCable().order(0, 0), false);
        OneCable corner = Check.told("bay 2 2 ;" + plain("a", 0, 0));
        due("true, though it can't go there", corner.order(0, 4), true);
    }

    private void hours() {
        says("So many HOURS (1 to 100), ORDERS in the first one: the number of the next one; NONE: others.");
        OneCable c = Check.told("bay 8 8 ; shoal 0 1 fish 50 ;" + plain("a", 0, 0));
        none("hours", c::hours, 0, -1, 101, 102);
        due("none went by", c.count(3), 0);
        due("one", c.hours(1), 1);
        c.order(0, 1);
        due("a hundred", c.hours(100), 101);
        due("one cell in the first of them", at(c, 0), 1);
        due("99 fish in 33 of a hundred", c.boat(0, 3), 99);
        due("99 more", c.hours(99), 200);
        c.order(0, 1);
        none("hours", c::hours, 0, 101);
        c.hours(1);
        due("a refused call leaves the order", at(c, 0), 2);
        OneCable one = Check.told(THREE);
        OneCable other = Check.told(THREE);
        one.hours(100);
        for (int i = 0; i < 100; i++) {
            other.hours(1);
        }
        same("a hundred at once and one by one", print(one), print(other));
        due("without boats", new OneCable().hours(100), 100);
    }

    private void mends() {
        says("MEND: true; false: others, it is not TORN, too far apart.");
        OneCable c = Check.told(THREE);
        due("not torn", c.mend(0), false);
        c.hours(1);
        String torn = print(c);
        for (int link : new int[] {-1, 2, 3, 6, MIN, MAX}) {
            due("no link " + link, c.mend(link), false);
        }
        due("this one is not torn", c.mend(0), false);
        same("refused calls change nothing", print(c), torn);
        due("torn", c.mend(1), true);
        due("no more", c.mend(1), false);
        OneCable d = Check.told("bay 8 8 ;" + plain("a", 0, 0) + plain("b", 5, 5) + " cable 9 strong 99 ;");
        due("10 apart, 9 long", d.mend(0), false);
        d.order(0, 1);
        d.hours(1);
        due("9 apart", d.mend(0), true);
        due("no boat at all", new OneCable().mend(0), false);
        OneCable near = Check.told("bay 8 2 ;" + plain("a", 0, 0) + plain("b", 7, 0) + boat("c", "plain", 7, 1, 0, 9, 0)
            + " cable 3 strong 0 ; cable 3 strong 0 ;");
        near.hours(1);
        due("both are torn", near.count(4), 3);
        due("the first one is too far apart", near.mend(0), false);
        due("the second one is not", near.mend(1), true);
        OneCable far = Check.told("bay 8 2 ;" + boat("a", "plain", 0, 0, 0, 9, 0) + plain("b", 1, 0) + plain("c", 7, 0)
            + " cable 3 strong 0 ;");
        far.hours(1);
        due("both are torn", far.count(4), 3);
        due("the second one is too far apart", far.mend(1), false);
        due("the first one is not", far.mend(0), true);
    }

    private void grips() {
        says("GRIP of the PART of a BOAT; NONE: others, it can't be there (not in the bay, rock).");
        OneCable c = Check.told("bay 6 5 ; rock 5 4 ; rock 2 0 ;" + plain("a", 1, 1) + plain("b", 3, 2));
        for (int dx = -9; dx <= 9; dx++) {
            for (int dy = -9; dy <= 9; dy++) {
                boolean inBay = dx >= -1 && dx <= 2 && dy >= -1 && dy <= 2;
                boolean onRock = dx == 1 && dy == -1 || dx == -1 && dy == -2 || dx == 2 && dy == 2;
                due("by " + dx + " " + dy, c.grip(0, dx, dy), inBay && !onRock ? 0 : -1);
                due("of b, by " + dx + " " + dy, c.grip(1, dx, dy), inBay && !onRock ? 0 : -1);
            }
        }
        none("boat", b -> c.grip(b, 0, 0), -1, 2, 7);
        none("dx", dx -> c.grip(0, dx, 0), -2, 3);
        none("dy", dy -> c.grip(0, 0, dy), -2, 3);
        none("both", d -> c.grip(0, d, d), -2, 3);
        OneCable empty = new OneCable();
        none("no boat at all", b -> empty.grip(b, 0, 0), 0);
    }

    private void gripOfNow() {
        says("GRIP of a PART at an offset (dx, dy from where it is): what it alone would CATCH there"
            + " by the fish and holds of now.");
        OneCable c = Check.told("bay 8 2 ; shoal 0 0 fish 4 ; shoal 2 0 fish 9 ; shoal 3 1 fish 5 ;"
            + boat("a", "plain", 0, 0, 4, 0, 0) + boat("b", "keen", 0, 0, 99, 0, 0) + plain("c", 7, 0) + plain("d", 7, 0));
        due("a and b of 4", c.grip(0, 0, 0), 4);
        due("of 9: 3 and 5", c.grip(1, 2, 0), 8);
        due("c and d alone, as if a and b took none", c.grip(2, -7, 0), 4);
        c.hours(1);
        due("a has 3 of 4, b 1; one fish grew", c.boat(0, 3) * 100 + c.boat(1, 3) * 10 + c.cell(0, 0, 0), 311);
        due("by the fish of now", c.grip(0, 0, 0), 1);
        due("by the holds of now: 1 and 5", c.grip(0, 2, 0), 6);
        due("nothing is caught by asking", c.count(6), 4);
        OneCable slow = Check.told("bay 8 2 ; shoal 7 0 fish 4 ;" + boat("a", "slow", 0, 0, 9, 0, 0));
        slow.hours(1);
        due("a slow one in an odd hour: it is about there, not about going", slow.grip(0, 7, 0), 3);
        OneCable sweep = Check.told("bay 8 2 ; shoal 4 1 fish 5 ;" + plain("a", 0, 0) + plain("b", 2, 0));
        due("its links sweep there", sweep.grip(0, 3, 1), 4);
    }

    private void shares() {
        says("Shares by hand (0 to 999; 0 at first):");
        OneCable c = Check.told(THREE);
        for (int b = 0; b < 3; b++) {
            due("at first", c.boat(b, 8), 0);
        }
        says("A share: true; false: others.");
        for (int fish : new int[] {0, 1, 998, 999}) {
            due("share " + fish, c.share(2, fish), true);
            due("is kept", c.boat(2, 8), fish);
        }
        for (int fish : new int[] {-1, -2, 1000, 1001, MIN, MAX}) {
            due("share " + fish, c.share(2, fish), false);
            due("the old one is kept", c.boat(2, 8), 999);
        }
        String before = print(c);
        for (int b : new int[] {-1, 3, 7, MIN, MAX}) {
            due("no boat " + b, c.share(b, 5), false);
        }
        same("nothing changed", print(c), before);
        due("back to 0", c.share(2, 0), true);
        due("is kept", c.boat(2, 8), 0);
        due("no boat at all", new OneCable().share(0, 0), false);
    }

    private void marks() {
        says("A MARK is laid (back: gone back to): true; false: none such, nothing is on it (back).");
        OneCable c = Check.told(THREE);
        for (int mark : new int[] {-1, 4, 5, MIN, MAX}) {
            due("none such " + mark, c.mark(mark, false), false);
            due("none such, back " + mark, c.mark(mark, true), false);
        }
        for (int mark = 0; mark < 4; mark++) {
            due("nothing on " + mark, c.mark(mark, true), false);
        }
        for (int mark = 0; mark < 4; mark++) {
            due("laid " + mark, c.mark(mark, false), true);
            for (int other = mark + 1; other < 4; other++) {
                due("nothing on " + other, c.mark(other, true), false);
            }
            c.hours(1);
        }
        for (int mark = 3; mark >= 0; mark--) {
            due("back to " + mark, c.mark(mark, true), true);
            due("its hour", c.count(3), mark);
        }
        due("forward again", c.mark(3, true), true);
        due("its hour", c.count(3), 3);
        String before = print(c);
        due("none such", c.mark(4, true), false);
        same("nothing changed", print(c), before);
    }

    private void marksHold() {
        says("MARKS 0 to 3 hold the BAY and all as it is.");
        OneCable c = Check.told(THREE);
        c.hours(1);
        c.share(1, 77);
        c.order(0, 1);
        c.order(2, 4);
        String before = print(c);
        c.mark(0, false);
        c.mend(1);
        c.share(1, 5);
        c.order(0, 3);
        c.hours(50);
        c.share(2, 6);
        due("something changed", print(c).equals(before), false);
        due("back", c.mark(0, true), true);
        same("all is as it was", print(c), before);
        c.hours(1);
        due("the orders, too", at(c, 0) * 100 + at(c, 2), 1223);
        due("back once more", c.mark(0, true), true);
        same("the mark is as it was", print(c), before);
        c.hours(2);
        String later = print(c);
        due("laid over", c.mark(0, false), true);
        c.hours(1);
        c.mark(0, true);
        same("what was laid last", print(c), later);
        due("a mark of an object without boats", new OneCable().mark(3, false), true);
        sevenHeld();
        OneCable links = Check.told(THREE);
        links.mark(0, false);
        links.hours(1);
        links.mark(1, false);
        due("torn", links.link(1, 2), 1);
        links.mark(0, true);
        due("whole on the first mark", links.link(1, 2) * 10 + links.count(4), 1);
        links.mark(1, true);
        due("torn on the second", links.link(1, 2) * 10 + links.count(4), 12);
        links.mend(1);
        links.mark(1, true);
        due("what was mended behind it is torn", links.link(1, 2), 1);
    }

    /** Seven boats in seven parts, so that each one has an order of its own. */
    private void sevenHeld() {
        StringBuilder text = new StringBuilder("bay 8 8 ;");
        for (int b = 0; b < 7; b++) {
            text.append(" shoal ").append(b).append(' ').append(b % 2 * 6).append(" fish 99 ;").append(plain("n" + (char) ('a' + b),
                b, b % 2 * 6));
        }
        OneCable c = Check.told(text.toString());
        due("parts", c.count(4), 7);
        c.hours(2);
        for (int b = 0; b < 7; b++) {
            c.share(b, 10 + b);
            c.order(b, 1);
        }
        String before = print(c);
        c.mark(3, false);
        c.hours(1);
        String moved = print(c);
        for (int b = 0; b < 7; b++) {
            due("north", c.boat(b, 2), b % 2 * 6 + 1);
            c.share(b, 20 + b);
        }
        for (int way = 3; way > 0; way--) {
            for (int b = 0; b < 7; b++) {
                c.order(b, way);
            }
            c.hours(1);
        }
        due("three more each", c.count(6), 63);
        due("the seventh, south, east and north again", at(c, 6), 71);
        c.mark(3, true);
        same("all of all boats", print(c), before);
        c.hours(1);
        same("their orders, too", print(c), moved);
    }

    private void counts() {
        says("What 0: wide, 1: deep, 2: BOATS, 3: the HOUR, 4: PARTS, 5: fish in all, 6: all that is caught, 7: gales,"
            + " 8: loose, 9: signs on the TAPE. NONE for another what.");
        OneCable c = Check.told(THREE);
        Check.feed(c, "bay");
        int[] before = {7, 6, 3, 0, 1, 11, 0, 7, 8, 3};
        int[] behind = {7, 6, 3, 1, 2, 7, 6, 7, 8, 3};
        for (int what = 0; what < 10; what++) {
            due("what " + what, c.count(what), before[what]);
        }
        c.hours(1);
        for (int what = 0; what < 10; what++) {
            due("behind an hour, what " + what, c.count(what), behind[what]);
        }
        none("another what", c::count, -1, 10, 11);
    }

    private void manyCalls() {
        says("An object is used for at most 512 calls after it has been made; what later calls answer is free.");
        OneCable c = new OneCable();
        for (int call = 0; call < 511; call++) {
            due("hours", c.hours(100), (call + 1) * 100);
        }
        due("the 512th call", c.count(3), 51100);
        OneCable full = new OneCable();
        for (int call = 0; call < 510; call++) {
            full.feed(-1L, 0x2020L, 0);
        }
        due("the 511th", full.bay(), 1 + 16 * 1000);
        due("the 512th", full.count(9), 0);
    }
}
