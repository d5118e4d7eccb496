/** The document's first section, clause by clause on one bay, and its last one. */
final class WholeEdges extends Edges {
    private static final String BAY = "bay 6 5 ; rock 5 4 ; shoal 1 0 fish 6 ; shoal 2 3 fish 9 ;"
        + boat("ann", "plain", 0, 0, 20, 2, 3) + boat("ben", "slow", 2, 0, 20, 0, 1) + boat("cid", "oar", 2, 2, 20, 0, 2)
        + boat("dot", "old", 3, 2, 7, 9, 0) + boat("eve", "keen", 3, 3, 20, 4, 1)
        + " cable 2 strong 5 ; cable 3 strong 2 ; cable 1 strong 9 ; cable 4 strong 9 ;"
        + " swell 4 + x ; wish fish + 3 - far ; gales 4 ; loose 6 ;";

    WholeEdges(Check check) {
        super(check);
    }

    @Override
    void run() {
        told();
        seasons();
        hours();
        soon();
        wishes();
        shares();
        storm();
        more();
        together();
        notPromised();
    }

    /** Behind the first hour: link 1 is torn, and of 6 fish between ann and ben 4 are swept. */
    private static OneCable hourOne() {
        OneCable c = Check.told(BAY);
        c.hours(1);
        return c;
    }

    private void told() {
        says("bays told in a language, with rocks, shoals, boats of five kinds along the cable, its lengths and strengths,"
            + " laws of swell and of what each wishes;");
        OneCable c = Check.told(BAY);
        due("rock", c.cell(5, 4, 2), 1);
        due("shoal", c.cell(2, 3, 0), 9);
        int[] forces = {2, 6, 1, 0, 3};
        for (int b = 0; b < 5; b++) {
            due("kind of " + b, c.boat(b, 0), b);
            due("force of " + b, c.boat(b, 5), forces[b]);
        }
        int[][] links = {{2, 5, 0, 2}, {3, 2, 0, 16}, {1, 9, 0, 9}, {4, 9, 0, 3}};
        for (int link = 0; link < 4; link++) {
            for (int what = 0; what < 4; what++) {
                due("link " + link + " what " + what, c.link(link, what), links[link][what]);
            }
        }
        due("swell", c.cell(3, 1, 1), 7);
        due("wish", c.wish(2, 1), 11);
    }

    private void seasons() {
        says("and seasons drawn, on the cable and loose.");
        OneCable c = Check.told(BAY);
        due("gales of 0 and 3: link 1 tears in both", c.seasons(0, 2, 0), 2);
        due("ben alone is above 6, in the second", c.seasons(0, 2, 1), 1);
        OneCable torn = hourOne();
        due("what is torn does not tear", torn.seasons(0, 2, 0), 0);
        due("loose as before", torn.seasons(0, 2, 1), 1);
    }

    private void hours() {
        says("hours by orders, what tears, which parts are whole, what is caught and swept;");
        OneCable c = Check.told(BAY);
        due("hours", c.hours(1), 1);
        for (int link = 0; link < 4; link++) {
            due("torn " + link, c.link(link, 2), link == 1 ? 1 : 0);
        }
        due("parts", c.count(4), 2);
        due("eve's part", c.boat(4, 6), 2);
        due("swept", c.count(6), 4);
        due("ann's", c.boat(0, 3), 2);
        due("ben's", c.boat(1, 3), 2);
        due("left, and one more", c.cell(1, 0, 0), 3);
        due("west", c.order(3, 4), true);
        due("east, but ben is slow", c.order(0, 2), true);
        due("hours", c.hours(1), 2);
        due("ann", at(c, 0), 0);
        due("cid", at(c, 2), 12);
        due("eve", at(c, 4), 23);
        due("caught by eve", c.boat(4, 3), 5);
        due("in all: ann 2 and ben 1 more", c.count(6), 4 + 3 + 5);
    }

    private void soon() {
        says("how soon a part can be where it catches so much with none torn;");
        OneCable c = hourOne();
        due("cid to the shoal", c.soon(2, 3, -1), 1);
        due("by north, before west", c.soon(2, 3, 0), 1);
        due("eve to the shoal", c.soon(3, 5, -1), 1);
        due("by west", c.soon(3, 5, 0), 4);
        due("never", c.soon(4, 6, -1), -1);
        due("nothing is done", at(c, 4), 33);
    }

    private void wishes() {
        says("where to go by all wishes, to whom trust gives weight, and who could get what by telling untruths;");
        OneCable c = hourOne();
        int[][] wishes = {{3, 2, 5, -1, -1}, {3, 2, 2, -1, -1}, {3, 11, 2, -1, -1}, {3, 2, 2, -1, -1}, {3, 2, 2, -1, -1}};
        for (int b = 0; b < 5; b++) {
            for (int way = 0; way < 5; way++) {
                due("wish of " + b + " for " + way, c.wish(b, way), wishes[b][way]);
            }
        }
        due("21, 32 and 23", c.chosen(false), 1);
        due("each one is somebody's best", c.chosen(true), -1);
        int[] gets = {7, 7, 7, 2, 7};
        for (int b = 0; b < 5; b++) {
            due("can get " + b, c.canGet(b), gets[b]);
        }
    }

    private void shares() {
        says("shares of one heap by which no run of boats would leave;");
        OneCable c = hourOne();
        due("ann and ben", c.leaves(), 1);
        int[] fair = {0, 3, 0, 0, 0};
        for (int b = 0; b < 5; b++) {
            due("fair for " + b, c.fair(b), fair[b]);
            due("share of " + b, c.share(b, fair[b]), true);
        }
        due("none would", c.leaves(), -1);
        due("all have the worth of all", c.worth(0, 4), 3);
    }

    private void storm() {
        says("the best order on the cable in a storm;");
        OneCable c = hourOne();
        due("no strain on link 1 at all", Check.storm(c, -1), -10);
        int[] order = {3, 1, 0, 2, 4};
        for (int place = 0; place < 5; place++) {
            due("on cell " + place, Check.storm(c, place), order[place]);
        }
        due("nobody is laid anew", at(c, 3), 32);
    }

    private void more() {
        says("what a boat more must bring;");
        OneCable c = hourOne();
        due("17 of 4 boats", c.join(4, 3, 1), 5);
        due("on the rock", c.join(5, 4, 1), -1);
        due("it is not there yet", c.count(2), 5);
    }

    /** However it goes, no call and no tear takes a boat away. */
    private void together() {
        says("Sunk only together: the fishing boats of a bay are on one cable, by a vow, so none can be lost alone, nor come"
            + " home;");
        OneCable c = Check.told(BAY + " ");
        for (int round = 0; round < 20; round++) {
            for (int b = 0; b < 5; b++) {
                c.order(b, 1 + (round + b) % 4);
            }
            c.hours(1 + round % 3);
            due("boats", c.count(2), 5);
            int seen = 0;
            for (int cell = 0; cell < 30; cell++) {
                seen |= c.cell(cell % 6, cell / 6, 3);
            }
            due("all are in the bay", seen, 31);
            due("none on the rock", c.cell(5, 4, 3), 0);
            due("links are links, torn or not", c.link(1, 0), 3);
        }
    }

    private void notPromised() {
        says("How the state is held inside the object is free, as are the speed of each call, the text of toString and the"
            + " behaviour of equals and hashCode. Use of one object from several threads at once is not promised to be safe.");
        OneCable one = Check.told(BAY);
        OneCable other = new OneCable();
        one.hours(3);
        one.mark(0, false);
        Check.feed(one, "bay");
        due("objects have nothing in common", other.count(2), 0);
        due("nor the tape", other.count(9), 0);
        due("nor marks", other.mark(0, true), false);
        says("Nothing is promised beyond the answers and state changes described above, and nothing about an object after its"
            + " 512th call.");
        OneCable old = Check.told(BAY);
        String before = print(old);
        for (int call = 0; call < 2000; call++) {
            old.grip(call % 7, call % 3, 0);
            old.canGet(call % 7);
            old.join(call % 8, 1, call);
            old.fair(call % 7);
            old.leaves();
            old.chosen(call % 2 == 0);
        }
        same("asking changes nothing", print(old), before);
    }
}
