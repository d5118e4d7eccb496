/** Sentences on the lines of a BAY, its FAULTS, and what a new BAY is. */
final class BayEdges extends Edges {
    private static final String BAY = "bay 3 5 ;";
    private static final String[] RESERVED = ("bay rock shoal fish boat at hold pull trust cable strong swell wish"
        + " gales loose plain slow oar old keen not and or").split(" ");

    BayEdges(Check check) {
        super(check);
    }

    @Override
    void run() {
        firstLine();
        anyNumber();
        eachToken();
        cells();
        rocks();
        shoals();
        boatLines();
        cables();
        onceEach();
        names();
        places();
        theLeast();
        cantStand();
        taken();
        notAsTold();
        tooMany();
        allStays();
        newBay();
        tornAtFirst();
    }

    private void firstLine() {
        says("BAY: bay N N ; first (how wide, how deep, 2 to 8 each);");
        for (int wide = 0; wide <= 10; wide++) {
            for (int deep = 0; deep <= 10; deep++) {
                OneCable c = new OneCable();
                boolean wideFits = wide >= 2 && wide <= 8;
                boolean fits = wideFits && deep >= 2 && deep <= 8;
                int deepPlace = wide > 9 ? 7 : 6;
                int want = fits ? 0 : 4 + 16 * (wideFits ? deepPlace : 4);
                due("bay " + wide + " " + deep, Check.tell(c, "bay " + wide + " " + deep + " ;"), want);
                due("wide", c.count(0), fits ? wide : 2);
                due("deep", c.count(1), fits ? deep : 2);
            }
        }
        for (String line : new String[] {"rock 0 0 ;", "shoal 0 0 fish 1 ;", plain("a", 0, 0).trim(), "cable 1 strong 1 ;",
            "swell 1 ;", "wish 1 ;", "gales 1 ;", "loose 1 ;", ";"}) {
            fault("^" + line + " bay 2 2 ;", 1);
        }
        fault("bay 2 2 ; ^bay 2 2 ;", 1);
        fault("bay 2 2 ; rock 0 0 ; ^bay 3 3 ;", 1);
    }

    private void anyNumber() {
        says("then any number of rock N N ; shoal N N fish N ; boat NAME KIND at N N hold N pull N trust N ;"
            + " cable N strong N ; swell E ; wish E ; gales N ; loose N ;");
        good("bay 8 8 ;");
        StringBuilder rocks = new StringBuilder("bay 8 8 ;");
        StringBuilder shoals = new StringBuilder("bay 8 8 ;");
        for (int cell = 0; cell < 64; cell++) {
            rocks.append("rock ").append(cell % 8).append(' ').append(cell / 8).append(';');
            shoals.append("shoal ").append(cell % 8).append(' ').append(cell / 8).append("fish9;");
        }
        OneCable c = Check.told(rocks.toString());
        due("all rock", c.cell(0, 0, 2) + c.cell(7, 7, 2) + c.cell(7, 0, 2) + c.cell(0, 7, 2), 4);
        due("room for none beside", Check.tell(c, rocks + "rock 0 0;"), 3 + 16 * (rocks.length() + 7));
        due("64 shoals", Check.told(shoals.toString()).count(5), 64 * 9);
        good("bay 2 2 ; loose 1 ; gales 1 ; wish 1 ; swell 1 ;" + plain("a", 0, 0) + plain("b", 0, 0)
            + " cable 1 strong 1 ; shoal 0 0 fish 1 ; rock 1 1 ;");
        fault("bay 2 2 ; ^;", 1);
        fault("bay 2 2 ; rock 0 0 ; ^;", 1);
        fault("bay 2 2 ; rock 0 0 ^rock 1 1 ;", 1);
    }

    /** Of a text with all lines each token is left out, and told twice: the first one that can't stand there is wrong. */
    private void eachToken() {
        says("boat NAME KIND at N N hold N pull N trust N ; cable N strong N ; swell E ; wish E ; gales N ; loose N ;");
        String[] tokens = ("bay 5 5 ; rock 1 2 ; shoal 0 3 fish 7 ; boat a plain at 2 1 hold 3 pull 4 trust 5 ; boat b keen at 3 4"
            + " hold 9 pull 8 trust 7 ; cable 2 strong 6 ; swell 8 + x ; wish not ( y < 2 ) ; gales 7 ; loose 6 ;").split(" ");
        good(String.join(" ", tokens));
        for (int i = 0; i < tokens.length; i++) {
            boolean pair = isNumber(tokens[i]) && i + 1 < tokens.length && isNumber(tokens[i + 1]);
            boolean twice = tokens[i].equals("not") || tokens[i].equals("(");
            StringBuilder without = new StringBuilder();
            StringBuilder doubled = new StringBuilder();
            for (int j = 0; j <= tokens.length; j++) {
                String token = j < tokens.length ? tokens[j] + " " : "";
                without.append(j == i + (pair ? 2 : 1) ? "^" : "").append(j == i ? "" : token);
                doubled.append(pair && j == i + 1 ? "^" : "").append(token);
                if (j == i) {
                    doubled.append(pair || twice ? "" : "^").append(token);
                }
            }
            if (!twice) {
                fault(without.toString(), 1);
                fault(doubled.toString(), 1);
            }
        }
        fault("bay 2 2 ; wish not ( 1 ^;", 1);
        fault("bay 2 2 ; wish not 1 ^) ;", 1);
        good("bay 2 2 ; wish not not ( ( 1 ) ) ;");
    }

    private static boolean isNumber(String token) {
        return Character.isDigit(token.charAt(0));
    }

    private void cells() {
        says("All CELLS x, y are in the bay (0 to how wide less 1, 0 to how deep less 1).");
        String[] before = {"rock ", "shoal ", "boat a old at "};
        String[] behind = {" ;", " fish 1 ;", " hold 0 pull 0 trust 0 ;"};
        for (int i = 0; i < before.length; i++) {
            range(BAY + before[i], " 0" + behind[i], 0, 2);
            range(BAY + before[i] + "0 ", behind[i], 0, 4);
            good(BAY + before[i] + "2 4" + behind[i]);
            fault(BAY + before[i] + "^4 2" + behind[i], 4);
            fault(BAY + before[i] + "^3 5" + behind[i], 4);
            good("bay 8 8 ;" + before[i] + "7 7" + behind[i]);
            fault("bay 8 8 ;" + before[i] + "^8 7" + behind[i], 4);
            fault("bay 8 8 ;" + before[i] + "7 ^8" + behind[i], 4);
            fault("bay 2 2 ;" + before[i] + "1 ^2" + behind[i], 4);
        }
    }

    private void rocks() {
        says("rock: a CELL without rock, shoal, boat.");
        fault(BAY + "rock 1 1 ; rock 1 ^1 ;", 3);
        fault(BAY + "shoal 1 1 fish 1 ; rock 1 ^1 ;", 3);
        fault(BAY + plain("a", 1, 1) + "rock 1 ^1 ;", 3);
        fault(BAY + plain("a", 0, 0) + plain("b", 1, 1) + "rock 1 ^1 ;", 3);
        good(BAY + "rock 1 1 ; shoal 0 1 fish 1 ;" + plain("a", 1, 0) + "rock 1 2 ; rock 2 1 ;");
        fault(BAY + plain("a", 2, 1) + "rock 1 2 ; rock 2 2 ; rock 1 1 ; rock 2 ^1 ;", 3);
    }

    private void shoals() {
        says("shoal: a CELL without rock, shoal; fish 1 to 99.");
        fault(BAY + "rock 1 1 ; shoal 1 ^1 fish 1 ;", 3);
        fault(BAY + "shoal 1 1 fish 1 ; shoal 1 ^1 fish 1 ;", 3);
        good(BAY + plain("a", 1, 1) + "shoal 1 1 fish 1 ;");
        range(BAY + "shoal 1 1 fish ", " ;", 1, 99);
        due("99 fish", Check.told(BAY + "shoal 1 1 fish 99 ;").cell(1, 1, 0), 99);
    }

    private void boatLines() {
        says("boat: 7 at most, numbered as told, along the cable; at a CELL without rock;");
        OneCable c = Check.told("bay 8 2 ;" + plain("g", 6, 0) + plain("f", 5, 1) + plain("e", 4, 0) + plain("d", 3, 1)
            + plain("c", 2, 0) + plain("b", 1, 1) + plain("a", 0, 0));
        due("seven", c.count(2), 7);
        for (int b = 0; b < 7; b++) {
            due("x of boat " + b, c.boat(b, 1), 6 - b);
        }
        fault("bay 8 2 ;" + boats(7) + "^boat h plain at 0 0 hold 0 pull 0 trust 0 ;", 5);
        fault(BAY + "rock 1 1 ; boat a old at 1 ^1 hold 0 pull 0 trust 0 ;", 3);
        good(BAY + "shoal 1 1 fish 1 ;" + plain("a", 1, 1) + plain("b", 1, 1));
        says("KIND is plain, slow, oar, old or keen;");
        String[] kinds = {"plain", "slow", "oar", "old", "keen"};
        for (int kind = 0; kind < kinds.length; kind++) {
            due(kinds[kind], Check.told(BAY + boat("a", kinds[kind], 0, 0, 0, 0, 0)).boat(0, 0), kind);
        }
        for (String kind : new String[] {"olds", "ol", "x", "far", "hour", "a", "5", "(", ";"}) {
            fault(BAY + "boat a ^" + kind + " at 0 0 hold 0 pull 0 trust 0 ;", 1);
        }
        for (int word = 0; word < RESERVED.length; word++) {
            boolean isKind = word >= 15 && word < 20;
            String text = BAY + "boat a " + RESERVED[word] + " at 0 0 hold 0 pull 0 trust 0 ;";
            due(text, Check.tell(new OneCable(), text), isKind ? 0 : 1 + 16 * (BAY.length() + 7));
        }
        says("hold 0 to 99, pull 0 to 99, trust 0 to 9.");
        String a = BAY + "boat a old at 0 0 hold ";
        range(a, " pull 0 trust 0 ;", 0, 99);
        range(a + "0 pull ", " trust 0 ;", 0, 99);
        range(a + "0 pull 0 trust ", " ;", 0, 9);
    }

    private void cables() {
        says("cable: of the LINKS the next one that is not told (LINK k is between BOATS k and k + 1, which is told already):");
        fault(BAY + "^cable 1 strong 1 ;", 5);
        fault(BAY + boats(1) + "^cable 1 strong 1 ;", 5);
        good(BAY + boats(2) + "cable 1 strong 1 ;");
        fault(BAY + boats(2) + "cable 1 strong 1 ; ^cable 1 strong 1 ;", 5);
        good(BAY + boats(7) + "cable 1 strong 1 ;".repeat(6));
        fault(BAY + boats(7) + "cable 1 strong 1 ;".repeat(6) + "^cable 1 strong 1 ;", 5);
        OneCable c = Check.told(BAY + plain("a", 0, 0) + plain("b", 0, 0) + "cable 1 strong 11 ;" + plain("c", 0, 0)
            + plain("d", 0, 0) + "cable 2 strong 22 ; cable 4 strong 44 ;" + plain("e", 0, 0));
        int[] lengths = {1, 2, 4, 3, -1};
        int[] strong = {11, 22, 44, 20, -1};
        for (int link = 0; link < 5; link++) {
            due("how long " + link, c.link(link, 0), lengths[link]);
            due("how strong " + link, c.link(link, 1), strong[link]);
        }
        says("how long (1 to 9), how strong (0 to 99);");
        range(BAY + boats(2) + "cable ", " strong 1 ;", 1, 9);
        range(BAY + boats(2) + "cable 1 strong ", " ;", 0, 99);
        says("those without a line are 3 long, 20 strong.");
        OneCable without = Check.told(BAY + boats(7));
        for (int link = 0; link < 6; link++) {
            due("how long " + link, without.link(link, 0), 3);
            due("how strong " + link, without.link(link, 1), 20);
        }
    }

    private void onceEach() {
        says("swell, wish, gales (0 to 50; 10 without), loose (0 to 99; 20 without): once each.");
        range(BAY + "gales ", " ;", 0, 50);
        range(BAY + "loose ", " ;", 0, 99);
        due("gales without", Check.told(BAY).count(7), 10);
        due("loose without", Check.told(BAY).count(8), 20);
        due("gales 0", Check.told(BAY + "gales 0 ;").count(7), 0);
        due("gales 50", Check.told(BAY + "gales 50 ;").count(7), 50);
        due("loose 0", Check.told(BAY + "loose 0 ;").count(8), 0);
        due("loose 99", Check.told(BAY + "loose 99 ;").count(8), 99);
        for (String word : new String[] {"swell", "wish", "gales", "loose"}) {
            fault(BAY + word + " 1 ; ^" + word + " 1 ;", 3);
            fault(BAY + "swell 1 ; wish 1 ; gales 1 ; loose 1 ; ^" + word + " 1 ;", 3);
        }
    }

    private void names() {
        says("A NAME is another WORD than bay, rock, shoal, fish, boat, at, hold, pull, trust, cable, strong, swell, wish,"
            + " gales, loose, the KINDS, not, and, or; no two are alike.");
        String end = " old at 0 0 hold 0 pull 0 trust 0 ;";
        for (String word : RESERVED) {
            fault(BAY + "boat ^" + word + end, 1);
            String longer = word.equals("cable") ? "cables" : word + "a";
            good(BAY + "boat " + longer + end);
        }
        for (String fact : new String[] {"x", "y", "hour", "rough", "room", "far"}) {
            good(BAY + "boat " + fact + end);
            fault(BAY + "boat " + fact + end + "boat ^" + fact + end, 3);
        }
        fault(BAY + "boat a" + end + "boat ^a" + end, 3);
        fault(BAY + "boat abcdefgh" + end + "boat b" + end + "boat ^abcdefgh" + end, 3);
        good(BAY + "boat ab" + end + "boat a" + end + "boat abc" + end + "boat ba" + end + "boat abcdefgh" + end
            + "boat abcdefgi" + end);
        fault(BAY + "boat\na" + end + "boat ^a" + end, 3);
        fault(BAY + "boat a" + end + "boat\n\n ^a\n" + end, 3);
        fault(BAY + "boat a\nold at 0 0 hold 0 pull 0 trust 0;boat  ^a" + end, 3);
        fault(BAY + boats(6) + "boat ^nf" + end, 3);
        good(BAY + boats(6) + "boat ng" + end);
        fault(BAY + "boat ^;", 1);
        fault(BAY + "boat ^7" + end, 1);
    }

    private void places() {
        says("FAULTS, kind + 16 * the place (from 0) of a token, the end being one at the text's length:");
        due("nothing at all", new OneCable().bay(), 1);
        fault("^rock 0 0 ;", 1);
        fault("   ^", 1);
        fault(" \n ^", 1);
        fault(" ".repeat(1000) + "^", 1);
        fault("bay 2 2^", 1);
        fault("bay 2 2   ^", 1);
        fault("bay 2 2" + "\n".repeat(993) + "^", 1);
        fault("bay 2 2 ; rock 0 0^", 1);
        fault(" ".repeat(999) + "^x", 1);
        fault(" ".repeat(990) + "bay 2 2 ;^;", 1);
    }

    private void theLeast() {
        says("of the first token from the left that is wrong the least:");
        fault("bay ^9 9 ;", 4);
        fault("bay ^1 x", 4);
        fault("bay 3 3 ; rock 0 0 ; rock 0 ^0 x", 3);
        fault("bay 3 3 ; swell 1 ; ^swell swell", 3);
        fault("bay 3 3 ; ^cable 0 strong 100", 5);
        fault(BAY + boats(7) + "^boat bay rock", 5);
        fault("bay 3 3 ; swell ((((( ^; bay", 1);
        fault("bay 3 3 ; swell ((((( ^) ;", 1);
        fault("bay 3 3 ; swell ((((( ^fish ;", 1);
        fault("bay 3 3 ; swell not not not not not ^and ;", 1);
        fault("bay 3 3 ; swell not not not not not^", 1);
        fault("bay 3 3 ; swell not not not not not ^12345", 1);
        fault("bay 3 3 ; wish ((((( ^fish ;", 5);
    }

    private void cantStand() {
        says("1 it is none, or can't stand there (another line than bay first, bay again);");
        fault("^shoal 0 0 fish 1 ;", 1);
        fault("bay 3 3 ; gales 1 ; ^bay 3 3 ;", 1);
        fault("^. bay 3 3 ;", 1);
        fault("bay 3 3 ; ^fish 3 ;", 1);
        fault("bay 3 3 ; ^a plain at 0 0 ;", 1);
        fault("bay 3 3 ; ^at ;", 1);
        fault("bay 3 3 ; ^3 ;", 1);
        fault("bay 3 3 ; ^( ;", 1);
        fault("bay ^- 3 3 ;", 1);
        fault("bay 3 ^; 3 ;", 1);
        String boat = "boat a plain at 0 0 hold 0 pull 0 trust 0 ;";
        String tokens = "bay 3 3 ; rock 1 1 ; shoal 2 2 fish 3 ; " + boat + " " + boat.replace("boat a", "boat b")
            + " cable 1 strong 1 ; swell ( x + 1 ) < 3 ; wish not fish ; gales 1 ; loose 1 ;";
        good(tokens);
        everyTokenCut(tokens);
    }

    /** Behind each token but the ; a sign that is none and the end are faults 1 at their place. */
    private void everyTokenCut(String tokens) {
        int from = tokens.indexOf(' ');
        while (from >= 0) {
            String before = tokens.substring(0, from);
            fault(before + " ^! " + tokens.substring(from), 1);
            if (!before.endsWith(";")) {
                fault(before + "^", 1);
                fault(before + "  ^", 1);
            } else {
                good(before + "  ");
            }
            from = tokens.indexOf(' ', from + 1);
        }
    }

    private void taken() {
        says("3 at y: the CELL is taken by what it must be without; a NAME told already,"
            + " swell, wish, gales, loose a second time;");
        fault(BAY + "rock 2 2 ; rock 2 ^2", 3);
        fault(BAY + "rock 2 2 ; shoal 2 ^2", 3);
        fault(BAY + "rock 2 2 ; boat a plain at 2 ^2", 3);
        fault(BAY + plain("a", 2, 2) + "rock 2 ^2", 3);
        fault(BAY + plain("a", 2, 2) + "boat ^a", 3);
        fault(BAY + "swell 1 ; ^swell", 3);
        fault(BAY + "wish 1 ; ^wish", 3);
        fault(BAY + "gales 1 ; ^gales", 3);
        fault(BAY + "loose 1 ; ^loose", 3);
        fault(BAY + "rock 1 2 ; rock 2 1 ; rock 2 3 ; rock 1 ^2", 3);
    }

    private void notAsTold() {
        says("4 a NUMBER that is not as told;");
        fault("bay ^1 2 ;", 4);
        fault("bay 2 ^9 ;", 4);
        fault(BAY + "rock ^3 0 ;", 4);
        fault(BAY + "rock 0 ^5 ;", 4);
        fault(BAY + "shoal 0 0 fish ^0 ;", 4);
        fault(BAY + "shoal 0 0 fish ^0000 ;", 4);
        fault(BAY + "boat a old at 0 0 hold ^100", 4);
        fault(BAY + "boat a old at 0 0 hold 0 pull ^100", 4);
        fault(BAY + "boat a old at 0 0 hold 0 pull 0 trust ^10", 4);
        fault(BAY + boats(2) + "cable ^0", 4);
        fault(BAY + boats(2) + "cable 1 strong ^100", 4);
        fault(BAY + "gales ^51", 4);
        fault(BAY + "loose ^100", 4);
        good(BAY + "swell 9999 ; wish 9999 ;");
    }

    private void tooMany() {
        says("5 one too many: the words boat of an eighth, cable for which there is no LINK; not, or a PART, within 5 others.");
        fault(BAY + boats(7) + "^boat", 5);
        fault(BAY + boats(7) + "^boat 1", 5);
        fault(BAY + "^cable", 5);
        fault(BAY + boats(3) + "cable 1 strong 1 ;".repeat(2) + "^cable", 5);
        String[] openers = {"( ( ( ( (", "not not not not not", "( not ( not (", "not ( not ( not"};
        for (String law : new String[] {"swell ", "wish "}) {
            for (String five : openers) {
                for (String part : new String[] {"1", "x", "hour", "not 1", "( 1"}) {
                    fault(BAY + law + five + " ^" + part, 5);
                }
            }
        }
        fault(BAY + "swell ( ( ( ( 1 + 1 ) ) ) ) + ( ( ( ( ( ^1", 5);
    }

    /** A fault leaves all but the tape: what is seen, orders and marks. */
    private void allStays() {
        says("The TAPE is read as a BAY: 0, or its FAULT (all stays then).");
        String text = "bay 4 4 ; rock 3 3 ; shoal 1 1 fish 9 ;" + plain("a", 1, 1) + plain("b", 1, 0)
            + " cable 2 strong 7 ; swell x ; wish y + 1 ; gales 3 ; loose 4 ;";
        String broken = "bay 5 5 ; rock 1 1 ; shoal 0 0 fish 3 ;" + boat("z", "keen", 2, 2, 1, 1, 1)
            + boat("w", "slow", 2, 2, 1, 1, 1) + " cable 9 strong 9 ; swell 77 ; wish 66 ; gales 50 ; loose 0 ; ^";
        OneCable c = Check.told(text);
        c.hours(3);
        c.share(1, 5);
        c.mark(2, false);
        c.order(0, 1);
        String before = print(c);
        due("a fault at the very end", Check.tell(c, broken.replace("^", "!")), 1 + 16 * broken.indexOf('^'));
        same("all is seen as before", print(c), before);
        due("an empty tape", c.bay(), 1);
        same("all is seen as before", print(c), before);
        c.hours(1);
        due("the order stood", at(c, 0), 12);
        due("the mark stands", c.mark(2, true), true);
        same("with all on it", print(c), before);
        due("no other mark", c.mark(0, true) || c.mark(1, true) || c.mark(3, true), false);
        due("without fault", Check.tell(c, broken.replace("^", "")), 0);
        same("all is new", print(c), print(Check.told(broken.replace("^", ""))));
    }

    private void newBay() {
        says("Without a FAULT it is the BAY from then on: HOUR 0, nothing is caught, no order, no share, no MARK is there;");
        String text = "bay 4 4 ; rock 3 3 ; shoal 1 1 fish 9 ;" + plain("a", 1, 1) + plain("b", 1, 0)
            + " cable 2 strong 7 ; swell x ; wish y + 1 ; gales 3 ; loose 4 ;";
        OneCable c = Check.told(text);
        String fresh = print(c);
        c.order(0, 2);
        c.hours(30);
        c.share(0, 999);
        c.order(0, 1);
        for (int mark = 0; mark < 4; mark++) {
            c.mark(mark, false);
        }
        due("told again", Check.tell(c, text), 0);
        due("the hour", c.count(3), 0);
        due("caught", c.count(6), 0);
        due("share", c.boat(0, 8), 0);
        for (int mark = 0; mark < 4; mark++) {
            due("mark " + mark, c.mark(mark, true), false);
        }
        same("as told first", print(c), fresh);
        c.hours(1);
        due("no order", at(c, 0), 11);
        due("bay 2 2 alone", Check.tell(c, "bay 2 2 ;"), 0);
        same("nothing of the old one is left", print(c), print(new OneCable()));
        due("seven boats", Check.tell(c, "bay 2 2 ;" + boats(7) + "cable 9 strong 9 ;".repeat(6)), 0);
        due("then two", Check.tell(c, "bay 2 2 ;" + boats(2)), 0);
        same("and their link is as without a line", print(c), print(Check.told("bay 2 2 ;" + boats(2))));
    }

    private void tornAtFirst() {
        says("LINKS shorter than their BOATS are apart (|x - x| + |y - y|) are TORN.");
        for (int length = 1; length <= 9; length++) {
            for (int apart = 0; apart <= 14; apart++) {
                int dx = Math.min(apart, 7);
                String cable = " cable " + length + " strong 99 ;";
                int want = length < apart ? 1 : 0;
                String there = "bay 8 8 ;" + plain("a", 0, 0) + plain("b", dx, apart - dx) + cable;
                String back = "bay 8 8 ;" + plain("a", 7, 7) + plain("b", 7 - apart + dx, 7 - dx) + cable;
                String aslant = "bay 8 8 ;" + plain("a", dx, 0) + plain("b", 0, apart - dx) + cable;
                due(there, Check.told(there).link(0, 2), want);
                due(back, Check.told(back).link(0, 2), want);
                due(aslant, Check.told(aslant).link(0, 2), want);
                due("parts of " + there, Check.told(there).count(4), 1 + want);
            }
        }
        String line = "bay 8 8 ;" + plain("a", 0, 0) + plain("b", 0, 3) + " cable 2 strong 1 ;";
        due("torn, too, by a cable told before its boats' neighbours", Check.told(line + plain("c", 0, 3)).link(0, 2), 1);
        due("the next one is not", Check.told(line + plain("c", 0, 3)).link(1, 2), 0);
    }
}
