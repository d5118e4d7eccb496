/** Sentences on a new object, the TAPE and its TOKENS. */
final class TapeEdges extends Edges {
    private static final int FULL = 1000;

    TapeEdges(Check check) {
        super(check);
    }

    @Override
    void run() {
        newObject();
        signs();
        fullTape();
        emptied();
        bytes();
        tokens();
        words();
        numbers();
        signTokens();
        noTokens();
    }

    private void newObject() {
        says("At first: bay 2 2, nothing else.");
        int[] counts = {2, 2, 0, 0, 0, 0, 0, 10, 20, 0};
        OneCable c = new OneCable();
        for (int what = 0; what < counts.length; what++) {
            due("count " + what, c.count(what), counts[what]);
        }
        same("as if told", print(c), print(Check.told("bay 2 2 ;")));
        for (int cell = 0; cell < 4; cell++) {
            due("fish", c.cell(cell % 2, cell / 2, 0), 0);
            due("swell", c.cell(cell % 2, cell / 2, 1), 10);
            due("rock", c.cell(cell % 2, cell / 2, 2), 0);
            due("boats", c.cell(cell % 2, cell / 2, 3), 0);
        }
        for (int mark = 0; mark < 4; mark++) {
            due("no mark", c.mark(mark, true), false);
        }
        says("A bay of 2 by 2, no BOAT.");
        due("too wide", c.cell(2, 0, 0), -1);
        due("too deep", c.cell(0, 2, 0), -1);
        due("no boat", c.boat(0, 0), -1);
        due("no link", c.link(0, 0), -1);
        OneCable other = Check.told("bay 7 7 ;" + boats(7));
        due("an object of its own", new OneCable().count(2) * 10 + c.count(0), 2);
        due("which has seven", other.count(2), 7);
        says("The constants: `NONE = -1`: None.");
        due("NONE", OneCable.NONE, -1);
    }

    private void signs() {
        says("The TAPE has at most 1,000 signs, 10 and 32 .. 126;");
        for (int sign = 0; sign < 256; sign++) {
            int want = sign == 10 || sign >= 32 && sign <= 126 ? 1 : 0;
            for (int shift = 0; shift < 64; shift += 8) {
                due("sign " + sign + " in a", new OneCable().feed((long) sign << shift, 0, 0), want);
                due("sign " + sign + " in b", new OneCable().feed(0, (long) sign << shift, 0), want);
                due("sign " + sign + " in c", new OneCable().feed(0, 0, (long) sign << shift), want);
            }
        }
    }

    private void fullTape() {
        says("The TAPE has at most 1,000 signs, 10 and 32 .. 126;");
        for (int many = FULL - 2; many <= FULL + 2; many++) {
            OneCable c = new OneCable();
            due(many + " signs fed", Check.feed(c, ".".repeat(many)), Math.min(many, FULL));
            due(many + " signs counted", c.count(9), Math.min(many, FULL));
        }
        says("others than 10 and 32 .. 126, and what is beyond 1,000, are left out: how many there are.");
        OneCable c = new OneCable();
        due("blanks", Check.feed(c, " ".repeat(FULL - 9)), FULL - 9);
        due("the last nine", Check.feed(c, "bay 3 4 ;rock 9 9 ;"), FULL);
        due("no more", Check.feed(c, "x"), FULL);
        due("no more at all", c.feed(-1L, 0, 0x2020L), FULL);
        due("the bay before the edge alone", c.bay(), 0);
        due("it is deep", c.count(1), 4);
        Check.feed(c, " ".repeat(FULL - 8));
        due("eight fit", Check.feed(c, "bay 5 6 ;"), FULL);
        due("the ; is beyond", c.bay(), 1 + 16 * FULL);
        due("the bay stays", c.count(1), 4);
        due("0x80, 0, 9, 31, 127, 255 are left out within a word",
            c.feed(0x62806100_09_1f_7f_ffL, 0x7920_3620_3720_3b00L, 0), 9);
        due("bay 6 7 ;", c.bay(), 0);
        due("six wide", c.count(0) * 10 + c.count(1), 67);
    }

    private void emptied() {
        says("what reads it takes it: it is empty then.");
        OneCable c = new OneCable();
        due("empty", c.bay(), 1);
        due("still empty", c.count(9), 0);
        due("fed", Check.feed(c, "bay 3 3 ;"), 9);
        due("read", c.bay(), 0);
        due("taken", c.count(9), 0);
        due("nothing more to read", c.bay(), 1);
        due("fed a fault", Check.feed(c, "bay 9 9 ;"), 9);
        due("read", c.bay(), 4 + 16 * 4);
        due("taken with its fault", c.count(9), 0);
        due("fed anew", Check.feed(c, "bay 4 4 ;"), 9);
        due("nothing of the old is before it", c.bay(), 0);
        Check.feed(c, "x".repeat(FULL));
        c.bay();
        due("a full one, too", Check.feed(c, "bay 5 4 ;"), 9);
        due("and there is room again", c.bay(), 0);
    }

    private void bytes() {
        says("Up to 24 signs come behind the TAPE: the bytes of a, b, c, of each the highest first;");
        OneCable c = new OneCable();
        due("none", c.feed(0, 0, 0), 0);
        due("bay 3 4 | ;rock 2 | 3 ;", c.feed(0x6261792033203420L, 0x3b726f636b203220L, 0x33203b2020202020L), 24);
        due("in this order", c.bay(), 0);
        due("rock at 2 3", c.cell(2, 3, 2), 1);
        due("bay, right", c.feed(0x0000000000626179L, 0, 0), 3);
        due("behind it 4, in c", c.feed(0, 0, 0x2034L), 5);
        due("behind it 5 ;", c.feed(0, 0x2000350000003bL, 0), 8);
        due("bay 4 5;", c.bay(), 0);
        due("4 by 5", c.count(0) * 10 + c.count(1), 45);
        due("all 24 by the sign bit left out", c.feed(Long.MIN_VALUE, -1L, 0x8080808080808080L), 0);
        due("24 of 24", c.feed(0x7e7e7e7e7e7e7e7eL, 0x0a0a0a0a0a0a0a0aL, 0x2020202020202020L), 24);
    }

    private void tokens() {
        says("TOKENS, each as long as can be, blanks (10, 32) between where one likes:");
        good("bay2 2;rock0 0;shoal1 1fish9;boat a plain at0 1hold0pull0trust0;swell(x)<not y;gales0;loose0;");
        good("\n bay \n 2\n2 \n\n; \n boat\na\nold\nat\n0\n0\nhold\n1\npull\n1\ntrust\n1\n;\n\n");
        good("  bay 2 2 ;  ");
        fault("bay ^22;", 4);
        fault("^bayrock 2 2 ;", 1);
        fault("bay 2 2 ; ^roc k 0 0 ;", 1);
        fault("bay 2 2 ; swell 1 ^2345 ;", 1);
        good("bay 2 2 ; boat slowly slow at 0 0 hold 0 pull 0 trust 0 ;");
        good("bay 2 2 ; boat nots old at 0 0 hold 0 pull 0 trust 0 ; swell not x ;");
        fault("bay 2 2 ; swell ^notx ;", 1);
    }

    private void words() {
        says("WORDS (letters a .. z, 8 at most),");
        String end = " plain at 0 0 hold 0 pull 0 trust 0 ;";
        for (char letter = 'a'; letter <= 'z'; letter++) {
            good("bay 2 2 ; boat " + letter + end);
        }
        for (char sign : new char[] {'`', '{', 'A', 'Z', '@', '_', '~'}) {
            fault("bay 2 2 ; boat ^" + sign + end, 1);
            fault("bay 2 2 ; boat a^" + sign + end, 1);
        }
        good("bay 2 2 ; boat abcdefgh" + end);
        good("bay 2 2 ; boat zzzzzzzz" + end);
        fault("bay 2 2 ; boat ^abcdefghi" + end, 1);
        fault("bay 2 2 ; boat abcdefgh^1" + end, 1);
        fault("bay 2 2 ; boat abcdefgh ^i" + end, 1);
    }

    private void numbers() {
        says("NUMBERS (1 to 4 digits; a letter may stand right behind),");
        for (String two : new String[] {"2", "02", "002", "0002"}) {
            good("bay " + two + " " + two + ";rock 0000 0;");
        }
        fault("bay 2 ^00002;", 1);
        fault("bay ^20000 2;", 1);
        fault("bay 2 2^a;", 1);
        good("bay 2 2;boat a old at 1 0001hold 0099pull 0000trust 0009;");
        fault("bay 2 2;boat a old at 1 ^00001hold 1", 1);
        fault("bay 2 ^:;", 1);
        fault("bay 2 ^/;", 1);
        for (int digit = 0; digit <= 9; digit++) {
            OneCable c = Check.told("bay 2 2 ; swell 100" + digit + " - 1000 ;");
            due("digit " + digit, c.cell(0, 0, 1), digit);
            due("four digits of it", Check.told("bay 2 2 ; swell 00" + digit + digit + ";").cell(0, 0, 1), 11 * digit);
        }
        due("9999, the greatest", Check.told("bay 2 2 ; swell 9999 - 9998 ;").cell(1, 1, 1), 1);
    }

    private void signTokens() {
        says("the signs ( ) < = + - * ;");
        for (char sign = 33; sign <= 126; sign++) {
            String text = "bay 2 2 ; swell 1 ^" + sign + " 1 ;";
            if ("<=+-*".indexOf(sign) >= 0) {
                good(text.replace("^", ""));
            } else if (sign == ';') {
                fault("bay 2 2 ; swell 1 ; ^1 ;", 1);
            } else if (sign != '^') {
                fault(text, 1);
            }
        }
        good("bay 2 2 ; swell ( 1 ) ;");
    }

    private void noTokens() {
        says("All else (a longer WORD or NUMBER, too, at its first sign) is none.");
        fault("^" + "a".repeat(9) + " ;", 1);
        fault("^" + "a".repeat(FULL), 1);
        fault("bay ^" + "2".repeat(5) + " 2 ;", 1);
        fault("bay ^" + "0".repeat(FULL - 4), 1);
        fault("bay 2 2 ; boat ^" + "b".repeat(FULL - 15), 1);
        fault("bay 2 2 ; swell ^00000 ;", 1);
        fault("bay 2 2 ; swell 1 ^% 2 ;", 1);
        due("the sign ^ itself", Check.tell(new OneCable(), "bay 2 2 ; ^"), 1 + 16 * 10);
        due("a none at the last sign", Check.tell(new OneCable(), " ".repeat(FULL - 1) + "!"), 1 + 16 * (FULL - 1));
    }
}
