import java.util.Arrays;
import java.util.NoSuchElementException;

/** The fishing boats of one bay on one cable: ../shared/DOC.md says what each call promises. */
public final class OneCable {
    public static final int NONE = -1;

    private static final int SIDE = 8;
    private static final int CELLS = 64;
    private static final int MOST_BOATS = 7;
    private static final int MOST_LINKS = 6;
    private static final int WAYS = 5;
    private static final int DAY = 24;
    private static final int TOP = 99;
    private static final int MOST_HOURS = 100;
    private static final int MOST_FISH = 999;
    private static final int MOST_SEED = 9999;
    private static final int MARKS = 4;

    private static final int SLOW = 1;
    private static final int OAR = 2;
    private static final int OLD = 3;
    private static final int KEEN = 4;

    private static final int[] WAY_X = {0, 0, 1, 0, -1};
    private static final int[] WAY_Y = {0, 1, 0, -1, 0};

    private final Tape tape;
    private final Telling telling;
    private final Bay told;
    private final State now;
    private final State[] marks;
    private final Sea sea;
    private final Cable cable;
    private final Nets nets;
    private final Course course;
    private final Council council;
    private final Storm storms;

    public OneCable() {
        tape = new Tape();
        telling = new Telling(tape);
        told = new Bay();
        now = new State();
        marks = new State[MARKS];
        for (int mark = 0; mark < MARKS; mark++) {
            marks[mark] = new State();
        }
        sea = new Sea(told);
        cable = new Cable(told, now, sea);
        nets = new Nets(told, now);
        course = new Course(told, now, cable, nets);
        council = new Council(told, now, sea, cable);
        storms = new Storm(told, now, sea, cable);
    }

    public int feed(long a, long b, long c) {
        tape.put(a);
        tape.put(b);
        tape.put(c);
        return tape.length;
    }

    public int bay() {
        int fault = telling.read();
        tape.length = 0;
        if (fault != 0) {
            return fault;
        }
        told.take(telling.draft);
        sea.forget();
        now.begin(told);
        for (int mark = 0; mark < MARKS; mark++) {
            marks[mark].laid = false;
        }
        return 0;
    }

    public int boat(int boat, int what) {
        if (!told.hasBoat(boat)) {
            return NONE;
        }
        switch (what) {
            case 0: return told.kind[boat];
            case 1: return now.x[boat];
            case 2: return now.y[boat];
            case 3: return now.caught[boat];
            case 4: return told.holds(boat);
            case 5: return sea.force(boat, now.x[boat], now.y[boat], now.hour, 0);
            case 6: return cable.first(boat);
            case 7: return told.trust[boat];
            case 8: return now.shares[boat];
            default: return NONE;
        }
    }

    public int link(int link, int what) {
        if (!told.hasLink(link)) {
            return NONE;
        }
        switch (what) {
            case 0: return told.lengths[link];
            case 1: return told.strong[link];
            case 2: return now.torn[link];
            case 3: return now.torn[link] != 0 ? NONE : cable.strainNow(link);
            default: return NONE;
        }
    }

    public int cell(int x, int y, int what) {
        if (!told.inside(x, y)) {
            return NONE;
        }
        switch (what) {
            case 0: return now.fish[y * SIDE + x];
            case 1: return sea.swell(x, y, now.hour);
            case 2: return told.rock[y * SIDE + x];
            case 3: return boatsAt(x, y);
            default: return NONE;
        }
    }

    private int boatsAt(int x, int y) {
        int bits = 0;
        for (int b = 0; b < told.boats; b++) {
            if (now.x[b] == x && now.y[b] == y) {
                bits |= 1 << b;
            }
        }
        return bits;
    }

    public boolean order(int boat, int way) {
        if (!told.hasBoat(boat) || way < 0 || way >= WAYS) {
            return false;
        }
        now.ways[cable.first(boat)] = way;
        return true;
    }

    public int hours(int many) {
        if (many < 1 || many > MOST_HOURS) {
            return NONE;
        }
        for (int done = 0; done < many; done++) {
            cable.sail();
            cable.tear();
            nets.haul(0, told.boats - 1, 0, 0);
            nets.keep();
            now.endHour(told);
        }
        return now.hour;
    }

    public boolean mend(int link) {
        if (!told.hasLink(link) || now.torn[link] == 0 || now.apart(link) > told.lengths[link]) {
            return false;
        }
        now.torn[link] = 0;
        return true;
    }

    public int grip(int boat, int dx, int dy) {
        if (!told.hasBoat(boat)) {
            return NONE;
        }
        int from = cable.first(boat);
        int to = cable.last(boat);
        return cable.fits(from, to, dx, dy) ? nets.haul(from, to, dx, dy) : NONE;
    }

    public int soon(int boat, int fish, int what) {
        if (!told.hasBoat(boat) || fish < 0 || fish > MOST_FISH || what < NONE) {
            return NONE;
        }
        int steps = course.find(boat, fish);
        if (what == NONE) {
            return steps;
        }
        return what < steps ? course.moves[what] : NONE;
    }

    public int wish(int boat, int way) {
        if (!told.hasBoat(boat) || way < 0 || way >= WAYS) {
            return NONE;
        }
        council.hear();
        return council.can[way] ? council.wishes[boat * WAYS + way] : NONE;
    }

    public int chosen(boolean nobody) {
        if (told.boats == 0) {
            return NONE;
        }
        council.hear();
        return council.favoured(nobody ? council.bests() : 0);
    }

    public int canGet(int boat) {
        if (!told.hasBoat(boat)) {
            return NONE;
        }
        council.hear();
        return council.gains(boat);
    }

    public int worth(int i, int j) {
        return i >= 0 && i <= j && j < told.boats ? nets.haul(i, j, 0, 0) : NONE;
    }

    public boolean share(int boat, int fish) {
        if (!told.hasBoat(boat) || fish < 0 || fish > MOST_FISH) {
            return false;
        }
        now.shares[boat] = fish;
        return true;
    }

    public int leaves() {
        for (int i = 0; i < told.boats; i++) {
            int sum = 0;
            for (int j = i; j < told.boats; j++) {
                sum += now.shares[j];
                if (sum < nets.haul(i, j, 0, 0)) {
                    return 10 * i + j;
                }
            }
        }
        return NONE;
    }

    public int fair(int boat) {
        return told.hasBoat(boat) ? nets.fairShare(boat) : NONE;
    }

    public int storm(int what) throws NoSuchElementException {
        if (told.boats < 2 || what < NONE || what >= told.boats) {
            throw new NoSuchElementException();
        }
        storms.search();
        return what == NONE ? storms.least : storms.best[what];
    }

    public int join(int x, int y, int pull) {
        int boats = told.boats;
        if (boats < 1 || boats >= MOST_BOATS || !told.open(x, y) || pull < 0 || pull > TOP) {
            return NONE;
        }
        int from = cable.first(boats - 1);
        cable.weigh(from, boats - 1, 0, 0, now.hour, 0);
        cable.load(boats, Math.max(0, sea.swell(x, y, now.hour) - pull));
        return cable.lastLinkNeeds(from, boats);
    }

    public int seasons(int seed, int days, int what) {
        if (seed < 0 || seed > MOST_SEED || days < 1 || days > TOP || what < 0 || what > 1) {
            return NONE;
        }
        long drawn = seed;
        int sum = 0;
        for (int day = 0; day < days; day++) {
            drawn = (drawn * 1103515245L + 12345L) % 2147483648L;
            int gale = (int) (drawn / 65536L % (told.gales + 1));
            sum += what == 0 ? cable.tornInDay(gale) : cable.lostInDay(gale);
        }
        return sum;
    }

    public boolean mark(int mark, boolean back) {
        if (mark < 0 || mark >= MARKS) {
            return false;
        }
        if (!back) {
            marks[mark].take(now);
            marks[mark].laid = true;
            return true;
        }
        if (!marks[mark].laid) {
            return false;
        }
        now.take(marks[mark]);
        return true;
    }

    public int count(int what) {
        switch (what) {
            case 0: return told.wide;
            case 1: return told.deep;
            case 2: return told.boats;
            case 3: return now.hour;
            case 4: return cable.parts();
            case 5: return sum(now.fish, CELLS);
            case 6: return sum(now.caught, told.boats);
            case 7: return told.gales;
            case 8: return told.loose;
            case 9: return tape.length;
            default: return NONE;
        }
    }

    private static int sum(int[] row, int many) {
        int sum = 0;
        for (int i = 0; i < many && i < row.length; i++) {
            sum += row[i];
        }
        return sum;
    }

    private static int within(int value) {
        return Math.max(0, Math.min(TOP, value));
    }

    /** The signs that were fed, and the token that is looked at while they are read. */
    private static final class Tape {
        static final int MOST_SIGNS = 1000;
        static final int LONGEST_WORD = 8;
        static final int LONGEST_NUMBER = 4;

        static final int END = 0;
        static final int NO_TOKEN = 1;
        static final int WORD = 2;
        static final int NUMBER = 3;
        static final int SIGN = 4;

        static final int BAY = 0;
        static final int ROCK = 1;
        static final int SHOAL = 2;
        static final int BOAT = 3;
        static final int CABLE = 4;
        static final int SWELL = 5;
        static final int WISH = 6;
        static final int GALES = 7;
        static final int LOOSE = 8;
        static final int AT = 9;
        static final int HOLD = 10;
        static final int PULL = 11;
        static final int TRUST = 12;
        static final int STRONG = 13;
        static final int PLAIN = 14;
        static final int LAST_KIND = 18;
        static final int NOT = 19;
        static final int AND = 20;
        static final int OR = 21;
        static final int FISH = 22;
        static final int X = 26;
        static final int HOUR = 28;
        static final int OTHER_WORD = 29;

        /** The words above by number, each one eight signs wide. */
        static final String WORDS = "bay     rock    shoal   boat    cable   swell   wish    gales   loose   at      hold    pull    trust   strong  plain   slow    oar     old     keen    not     and     or      fish    rough   room    far     x       y       hour    ";
        static final String SIGNS = "()<=+-*;";

        final byte[] signs = new byte[MOST_SIGNS];
        int length;
        int place;
        int after;
        int token;
        int value;

        void put(long eight) {
            for (int shift = 56; shift >= 0; shift -= 8) {
                int sign = (int) (eight >>> shift) & 255;
                boolean stays = sign == 10 || sign >= 32 && sign <= 126;
                if (stays && length < MOST_SIGNS) {
                    signs[length] = (byte) sign;
                    length++;
                }
            }
        }

        void rewind() {
            after = 0;
            advance();
        }

        void advance() {
            while (after < length && (signs[after] == 10 || signs[after] == 32)) {
                after++;
            }
            place = after;
            if (after >= length) {
                token = END;
            } else if (signs[after] >= 'a' && signs[after] <= 'z') {
                pass('a', 'z');
                token = after - place <= LONGEST_WORD ? WORD : NO_TOKEN;
                value = token == WORD ? wordNumber() : 0;
            } else if (signs[after] >= '0' && signs[after] <= '9') {
                pass('0', '9');
                token = after - place <= LONGEST_NUMBER ? NUMBER : NO_TOKEN;
                value = token == NUMBER ? digits() : 0;
            } else {
                value = signs[after];
                token = SIGNS.indexOf((char) value) >= 0 ? SIGN : NO_TOKEN;
                after++;
            }
        }

        private void pass(char least, char most) {
            while (after < length && signs[after] >= least && signs[after] <= most) {
                after++;
            }
        }

        private int digits() {
            int number = 0;
            for (int i = place; i < after; i++) {
                number = number * 10 + signs[i] - '0';
            }
            return number;
        }

        private int wordNumber() {
            for (int word = 0; word < OTHER_WORD; word++) {
                boolean same = true;
                for (int i = 0; i < LONGEST_WORD && same; i++) {
                    int sign = place + i < after ? signs[place + i] : ' ';
                    same = sign == WORDS.charAt(word * LONGEST_WORD + i);
                }
                if (same) {
                    return word;
                }
            }
            return OTHER_WORD;
        }

        boolean isWord(int word) {
            return token == WORD && value == word;
        }

        boolean isSign(char sign) {
            return token == SIGN && value == sign;
        }

        /** Whether the token that is looked at has the signs from there to there. */
        boolean isAlike(int from, int to) {
            if (to - from != after - place) {
                return false;
            }
            for (int i = 0; i < to - from; i++) {
                if (signs[from + i] != signs[place + i]) {
                    return false;
                }
            }
            return true;
        }
    }

    /** Reads the tape as a bay into a draft, so that a fault leaves the bay of now alone. */
    private static final class Telling {
        static final int CANT_STAND = 1;
        static final int TAKEN = 3;
        static final int NOT_AS_TOLD = 4;
        static final int TOO_MANY = 5;
        static final int DEEPEST = 5;

        static final int AND_OR = 0;
        static final int COMPARING = 1;
        static final int ADDING = 2;
        static final int TIMES = 3;
        static final int PART = 4;
        static final int NO_CODE = 0;

        final Tape tape;
        final Bay draft = new Bay();
        final int[] nameFrom = new int[MOST_BOATS];
        final int[] nameTo = new int[MOST_BOATS];
        int linksTold;
        int onceTold;
        int fault;
        int number;
        int cellX;
        int cellY;

        Telling(Tape tape) {
            this.tape = tape;
        }

        int read() {
            draft.clear();
            linksTold = 0;
            onceTold = 0;
            fault = 0;
            tape.rewind();
            boolean good = bayLine();
            for (int lines = 0; lines < Tape.MOST_SIGNS && good && tape.token != Tape.END; lines++) {
                good = line();
            }
            return fault;
        }

        private boolean fail(int kind) {
            fault = kind + 16 * tape.place;
            return false;
        }

        private boolean line() {
            switch (tape.token == Tape.WORD ? tape.value : Tape.OTHER_WORD) {
                case Tape.ROCK: return rockLine();
                case Tape.SHOAL: return shoalLine();
                case Tape.BOAT: return boatLine();
                case Tape.CABLE: return cableLine();
                case Tape.SWELL: return lawLine(Tape.SWELL, draft.swellLaw);
                case Tape.WISH: return lawLine(Tape.WISH, draft.wishLaw);
                case Tape.GALES: return galesLine();
                case Tape.LOOSE: return looseLine();
                default: return fail(CANT_STAND);
            }
        }

        private boolean bayLine() {
            if (!takeWord(Tape.BAY) || !takeNumber(2, SIDE)) {
                return false;
            }
            draft.wide = number;
            if (!takeNumber(2, SIDE)) {
                return false;
            }
            draft.deep = number;
            return takeSign(';');
        }

        private boolean rockLine() {
            tape.advance();
            if (!takeCell(Bay.HAS_ROCK | Bay.HAS_SHOAL | Bay.HAS_BOAT)) {
                return false;
            }
            draft.rock[cellY * SIDE + cellX] = 1;
            return takeSign(';');
        }

        private boolean shoalLine() {
            tape.advance();
            if (!takeCell(Bay.HAS_ROCK | Bay.HAS_SHOAL)
                || !takeWord(Tape.FISH) || !takeNumber(1, TOP)) {
                return false;
            }
            draft.shoal[cellY * SIDE + cellX] = number;
            return takeSign(';');
        }

        private boolean boatLine() {
            int boat = draft.boats;
            if (boat >= MOST_BOATS) {
                return fail(TOO_MANY);
            }
            tape.advance();
            if (!takeName(boat) || !takeKind(boat)
                || !takeWord(Tape.AT) || !takeCell(Bay.HAS_ROCK)) {
                return false;
            }
            draft.homeX[boat] = cellX;
            draft.homeY[boat] = cellY;
            if (!takeWord(Tape.HOLD) || !takeNumber(0, TOP)) {
                return false;
            }
            draft.hold[boat] = number;
            if (!takeWord(Tape.PULL) || !takeNumber(0, TOP)) {
                return false;
            }
            draft.pull[boat] = number;
            if (!takeWord(Tape.TRUST) || !takeNumber(0, 9)) {
                return false;
            }
            draft.trust[boat] = number;
            draft.boats = boat + 1;
            return takeSign(';');
        }

        private boolean takeName(int boat) {
            boolean free = tape.token == Tape.WORD && tape.value > Tape.FISH;
            if (!free) {
                return fail(CANT_STAND);
            }
            for (int other = 0; other < boat; other++) {
                if (tape.isAlike(nameFrom[other], nameTo[other])) {
                    return fail(TAKEN);
                }
            }
            nameFrom[boat] = tape.place;
            nameTo[boat] = tape.after;
            tape.advance();
            return true;
        }

        private boolean takeKind(int boat) {
            boolean kind = tape.token == Tape.WORD
                && tape.value >= Tape.PLAIN && tape.value <= Tape.LAST_KIND;
            if (!kind) {
                return fail(CANT_STAND);
            }
            draft.kind[boat] = tape.value - Tape.PLAIN;
            tape.advance();
            return true;
        }

        private boolean cableLine() {
            int link = linksTold;
            if (!draft.hasLink(link)) {
                return fail(TOO_MANY);
            }
            tape.advance();
            if (!takeNumber(1, 9)) {
                return false;
            }
            draft.lengths[link] = number;
            if (!takeWord(Tape.STRONG) || !takeNumber(0, TOP)) {
                return false;
            }
            draft.strong[link] = number;
            linksTold = link + 1;
            return takeSign(';');
        }

        private boolean lawLine(int word, Law law) {
            if (!takeOnce(word)) {
                return false;
            }
            law.size = 0;
            return takeLaw(law, word == Tape.WISH ? Tape.FISH : Tape.X, AND_OR, 0) && takeSign(';');
        }

        private boolean galesLine() {
            if (!takeOnce(Tape.GALES) || !takeNumber(0, Bay.MOST_GALES)) {
                return false;
            }
            draft.gales = number;
            return takeSign(';');
        }

        private boolean looseLine() {
            if (!takeOnce(Tape.LOOSE) || !takeNumber(0, TOP)) {
                return false;
            }
            draft.loose = number;
            return takeSign(';');
        }

        private boolean takeOnce(int word) {
            if ((onceTold & 1 << word) != 0) {
                return fail(TAKEN);
            }
            onceTold |= 1 << word;
            tape.advance();
            return true;
        }

        private boolean takeWord(int word) {
            if (!tape.isWord(word)) {
                return fail(CANT_STAND);
            }
            tape.advance();
            return true;
        }

        private boolean takeSign(char sign) {
            if (!tape.isSign(sign)) {
                return fail(CANT_STAND);
            }
            tape.advance();
            return true;
        }

        private boolean takeNumber(int least, int most) {
            if (!seesNumber(least, most)) {
                return false;
            }
            tape.advance();
            return true;
        }

        private boolean seesNumber(int least, int most) {
            if (tape.token != Tape.NUMBER) {
                return fail(CANT_STAND);
            }
            number = tape.value;
            return number >= least && number <= most || fail(NOT_AS_TOLD);
        }

        /** y is only looked at before the cell is tested, as a taken cell is a fault at y. */
        private boolean takeCell(int without) {
            if (!takeNumber(0, draft.wide - 1)) {
                return false;
            }
            cellX = number;
            if (!seesNumber(0, draft.deep - 1)) {
                return false;
            }
            cellY = number;
            if ((draft.whatLies(cellX, cellY) & without) != 0) {
                return fail(TAKEN);
            }
            tape.advance();
            return true;
        }

        /** One level of an E, from and/or down to a PART; depth counts the not and ( ) around. */
        private boolean takeLaw(Law law, int leastFact, int level, int depth) {
            if (level >= PART) {
                return takePart(law, leastFact, depth);
            }
            if (!takeLaw(law, leastFact, level + 1, depth)) {
                return false;
            }
            int most = level == COMPARING ? 1 : Tape.MOST_SIGNS;
            for (int more = 0; more < most; more++) {
                int code = seesJoiner(level);
                if (code == NO_CODE) {
                    return true;
                }
                tape.advance();
                if (!takeLaw(law, leastFact, level + 1, depth)) {
                    return false;
                }
                law.put(code);
            }
            return true;
        }

        private int seesJoiner(int level) {
            switch (level) {
                case AND_OR: return tape.isWord(Tape.AND) ? Law.AND : tape.isWord(Tape.OR) ? Law.OR : NO_CODE;
                case COMPARING: return tape.isSign('<') ? Law.LESS : tape.isSign('=') ? Law.SAME : NO_CODE;
                case ADDING: return tape.isSign('+') ? Law.PLUS : tape.isSign('-') ? Law.MINUS : NO_CODE;
                case TIMES: return tape.isSign('*') ? Law.TIMES : NO_CODE;
                default: return NO_CODE;
            }
        }

        private boolean takePart(Law law, int leastFact, int depth) {
            boolean isNumber = tape.token == Tape.NUMBER;
            boolean isFact = tape.token == Tape.WORD
                && tape.value >= leastFact && tape.value <= Tape.HOUR;
            boolean isNot = tape.isWord(Tape.NOT);
            if (!isNumber && !isFact && !isNot && !tape.isSign('(')) {
                return fail(CANT_STAND);
            }
            if (depth >= DEEPEST) {
                return fail(TOO_MANY);
            }
            int value = tape.value;
            tape.advance();
            if (isNumber || isFact) {
                law.put(isNumber ? value : Law.FIRST_FACT - (value - Tape.FISH));
                return true;
            }
            if (isNot) {
                boolean good = takePart(law, leastFact, depth + 1);
                law.put(Law.NOT);
                return good;
            }
            if (!takeLaw(law, leastFact, AND_OR, depth + 1)) {
                return false;
            }
            if (!tape.isSign(')')) {
                return fail(CANT_STAND);
            }
            tape.advance();
            return true;
        }
    }

    /** An E as a row of codes, each behind what it works on: numbers from 0, facts and joiners below. */
    private static final class Law {
        static final int FACTS = 7;
        static final int FISH = 0;
        static final int ROUGH = 1;
        static final int ROOM = 2;
        static final int FAR = 3;
        static final int X = 4;
        static final int Y = 5;
        static final int HOUR = 6;

        static final int FIRST_FACT = -1;
        static final int LAST_FACT = -7;
        static final int NOT = -8;
        static final int TIMES = -9;
        static final int PLUS = -10;
        static final int MINUS = -11;
        static final int LESS = -12;
        static final int SAME = -13;
        static final int AND = -14;
        static final int OR = -15;

        /** Five levels of ( ) hold four left sides each, and one value on top. */
        static final int HIGHEST = 32;

        final int[] codes = new int[Tape.MOST_SIGNS];
        final int[] stack = new int[HIGHEST];
        int size;

        /** No row is ever full: each code comes from a sign of its own. */
        void put(int code) {
            if (size < codes.length) {
                codes[size] = code;
                size++;
            }
        }

        void only(int code) {
            size = 0;
            put(code);
        }

        void take(Law other) {
            size = other.size;
            System.arraycopy(other.codes, 0, codes, 0, other.size);
        }

        int value(int[] facts) {
            int top = 0;
            for (int i = 0; i < size; i++) {
                int code = codes[i];
                if (code >= LAST_FACT && top < HIGHEST) {
                    stack[top] = code >= 0 ? code : facts[FIRST_FACT - code];
                    top++;
                } else if (code == NOT && top > 0) {
                    stack[top - 1] = stack[top - 1] == 0 ? 1 : 0;
                } else if (top > 1) {
                    top--;
                    stack[top - 1] = joined(code, stack[top - 1], stack[top]);
                }
            }
            return stack[0];
        }

        private static int joined(int code, int left, int right) {
            switch (code) {
                case TIMES: return left * right;
                case PLUS: return left + right;
                case MINUS: return left - right;
                case LESS: return left < right ? 1 : 0;
                case SAME: return left == right ? 1 : 0;
                case AND: return left != 0 && right != 0 ? 1 : 0;
                default: return left != 0 || right != 0 ? 1 : 0;
            }
        }
    }

    /** What was told of a bay: it stays as it is until another one is read. */
    private static final class Bay {
        static final int MOST_GALES = 50;
        static final int HAS_ROCK = 1;
        static final int HAS_SHOAL = 2;
        static final int HAS_BOAT = 4;

        int wide;
        int deep;
        int boats;
        int gales;
        int loose;
        final int[] rock = new int[CELLS];
        final int[] shoal = new int[CELLS];
        final int[] kind = new int[MOST_BOATS];
        final int[] homeX = new int[MOST_BOATS];
        final int[] homeY = new int[MOST_BOATS];
        final int[] hold = new int[MOST_BOATS];
        final int[] pull = new int[MOST_BOATS];
        final int[] trust = new int[MOST_BOATS];
        final int[] lengths = new int[MOST_LINKS];
        final int[] strong = new int[MOST_LINKS];
        final Law swellLaw = new Law();
        final Law wishLaw = new Law();

        Bay() {
            clear();
        }

        void clear() {
            wide = 2;
            deep = 2;
            boats = 0;
            gales = 10;
            loose = 20;
            Arrays.fill(rock, 0);
            Arrays.fill(shoal, 0);
            Arrays.fill(lengths, 3);
            Arrays.fill(strong, 20);
            swellLaw.only(10);
            wishLaw.only(Law.FIRST_FACT - Law.FISH);
        }

        void take(Bay other) {
            wide = other.wide;
            deep = other.deep;
            boats = other.boats;
            gales = other.gales;
            loose = other.loose;
            System.arraycopy(other.rock, 0, rock, 0, CELLS);
            System.arraycopy(other.shoal, 0, shoal, 0, CELLS);
            System.arraycopy(other.kind, 0, kind, 0, MOST_BOATS);
            System.arraycopy(other.homeX, 0, homeX, 0, MOST_BOATS);
            System.arraycopy(other.homeY, 0, homeY, 0, MOST_BOATS);
            System.arraycopy(other.hold, 0, hold, 0, MOST_BOATS);
            System.arraycopy(other.pull, 0, pull, 0, MOST_BOATS);
            System.arraycopy(other.trust, 0, trust, 0, MOST_BOATS);
            System.arraycopy(other.lengths, 0, lengths, 0, MOST_LINKS);
            System.arraycopy(other.strong, 0, strong, 0, MOST_LINKS);
            swellLaw.take(other.swellLaw);
            wishLaw.take(other.wishLaw);
        }

        boolean hasBoat(int boat) {
            return boat >= 0 && boat < boats;
        }

        boolean hasLink(int link) {
            return link >= 0 && link < boats - 1;
        }

        boolean inside(int x, int y) {
            return x >= 0 && x < wide && y >= 0 && y < deep;
        }

        boolean open(int x, int y) {
            return inside(x, y) && rock[y * SIDE + x] == 0;
        }

        int holds(int boat) {
            return kind[boat] == OLD ? hold[boat] / 2 : hold[boat];
        }

        int whatLies(int x, int y) {
            int bits = rock[y * SIDE + x] != 0 ? HAS_ROCK : 0;
            if (shoal[y * SIDE + x] > 0) {
                bits |= HAS_SHOAL;
            }
            for (int b = 0; b < boats; b++) {
                if (homeX[b] == x && homeY[b] == y) {
                    bits |= HAS_BOAT;
                }
            }
            return bits;
        }
    }

    /** What changes by the hour or by hand in a bay; a mark is another one of these. */
    private static final class State {
        boolean laid;
        int hour;
        final int[] fish = new int[CELLS];
        final int[] x = new int[MOST_BOATS];
        final int[] y = new int[MOST_BOATS];
        final int[] caught = new int[MOST_BOATS];
        final int[] ways = new int[MOST_BOATS];
        final int[] shares = new int[MOST_BOATS];
        final int[] torn = new int[MOST_LINKS];

        void begin(Bay bay) {
            hour = 0;
            System.arraycopy(bay.shoal, 0, fish, 0, CELLS);
            System.arraycopy(bay.homeX, 0, x, 0, MOST_BOATS);
            System.arraycopy(bay.homeY, 0, y, 0, MOST_BOATS);
            Arrays.fill(caught, 0);
            Arrays.fill(ways, 0);
            Arrays.fill(shares, 0);
            Arrays.fill(torn, 0);
            for (int link = 0; link < bay.boats - 1; link++) {
                torn[link] = apart(link) > bay.lengths[link] ? 1 : 0;
            }
        }

        void take(State other) {
            hour = other.hour;
            System.arraycopy(other.fish, 0, fish, 0, CELLS);
            System.arraycopy(other.x, 0, x, 0, MOST_BOATS);
            System.arraycopy(other.y, 0, y, 0, MOST_BOATS);
            System.arraycopy(other.caught, 0, caught, 0, MOST_BOATS);
            System.arraycopy(other.ways, 0, ways, 0, MOST_BOATS);
            System.arraycopy(other.shares, 0, shares, 0, MOST_BOATS);
            System.arraycopy(other.torn, 0, torn, 0, MOST_LINKS);
        }

        int apart(int link) {
            return Math.abs(x[link] - x[link + 1]) + Math.abs(y[link] - y[link + 1]);
        }

        void endHour(Bay bay) {
            for (int cell = 0; cell < CELLS; cell++) {
                fish[cell] = Math.min(fish[cell] + 1, bay.shoal[cell]);
            }
            hour++;
            Arrays.fill(ways, 0);
        }
    }

    /** The swell of a bay. It hangs on cell and hour of the day alone, so each is worked out once. */
    private static final class Sea {
        static final int UNKNOWN = -1;
        static final int OAR_PULL = 5;

        final Bay bay;
        final int[] known = new int[DAY * CELLS];
        final int[] facts = new int[Law.FACTS];

        Sea(Bay bay) {
            this.bay = bay;
            forget();
        }

        void forget() {
            Arrays.fill(known, UNKNOWN);
        }

        int swell(int x, int y, int hour) {
            int ofDay = Math.floorMod(hour, DAY);
            int at = ofDay * CELLS + y * SIDE + x;
            if (known[at] == UNKNOWN) {
                facts[Law.X] = x;
                facts[Law.Y] = y;
                facts[Law.HOUR] = ofDay;
                known[at] = within(bay.swellLaw.value(facts));
            }
            return known[at];
        }

        int force(int boat, int x, int y, int hour, int gale) {
            int swell = Math.min(TOP, swell(x, y, hour) + gale);
            int pull = bay.pull[boat] + (bay.kind[boat] == OAR ? OAR_PULL : 0);
            return Math.max(0, swell - pull);
        }
    }

    /** The parts that hang together, how they go, what strains and what tears. */
    private static final class Cable {
        final Bay bay;
        final State now;
        final Sea sea;

        /** The forces of all boats of the part that is weighed before the one of this number. */
        final int[] before = new int[MOST_BOATS + 1];

        Cable(Bay bay, State now, Sea sea) {
            this.bay = bay;
            this.now = now;
            this.sea = sea;
        }

        int first(int boat) {
            int first = boat;
            while (first > 0 && now.torn[first - 1] == 0) {
                first--;
            }
            return first;
        }

        int last(int boat) {
            int last = boat;
            while (last < bay.boats - 1 && now.torn[last] == 0) {
                last++;
            }
            return last;
        }

        int parts() {
            int parts = bay.boats > 0 ? 1 : 0;
            for (int link = 0; link < bay.boats - 1; link++) {
                parts += now.torn[link];
            }
            return parts;
        }

        boolean fits(int from, int to, int dx, int dy) {
            for (int b = from; b <= to; b++) {
                if (!bay.open(now.x[b] + dx, now.y[b] + dy)) {
                    return false;
                }
            }
            return true;
        }

        boolean heldBySlow(int from, int to, int hour) {
            boolean slow = false;
            for (int b = from; b <= to; b++) {
                slow = slow || bay.kind[b] == SLOW;
            }
            return slow && (hour & 1) == 1;
        }

        void sail() {
            for (int to = 0; to < bay.boats; to++) {
                if (last(to) == to) {
                    go(first(to), to);
                }
            }
        }

        private void go(int from, int to) {
            int way = now.ways[from];
            if (heldBySlow(from, to, now.hour) || !fits(from, to, WAY_X[way], WAY_Y[way])) {
                return;
            }
            for (int b = from; b <= to; b++) {
                now.x[b] += WAY_X[way];
                now.y[b] += WAY_Y[way];
            }
        }

        /** From each part's last boat, as what tears before it makes no new last boat behind it. */
        void tear() {
            for (int to = 0; to < bay.boats; to++) {
                if (last(to) == to) {
                    int from = first(to);
                    weigh(from, to, 0, 0, now.hour, 0);
                    for (int link = from; link < to; link++) {
                        now.torn[link] = excess(from, to, link) > 0 ? 1 : 0;
                    }
                }
            }
        }

        void weigh(int from, int to, int dx, int dy, int hour, int gale) {
            before[from] = 0;
            for (int b = from; b <= to; b++) {
                load(b, sea.force(b, now.x[b] + dx, now.y[b] + dy, hour, gale));
            }
        }

        void load(int place, int force) {
            before[place + 1] = before[place] + force;
        }

        int strain(int from, int to, int link) {
            int size = to - from + 1;
            int behind = link - from + 1;
            return Math.abs(size * before[link + 1] - behind * before[to + 1]);
        }

        /** Above 0 for a link that tears. */
        int excess(int from, int to, int link) {
            return strain(from, to, link) - (to - from + 1) * bay.strong[link];
        }

        boolean anyTears(int from, int to) {
            for (int link = from; link < to; link++) {
                if (excess(from, to, link) > 0) {
                    return true;
                }
            }
            return false;
        }

        int strainNow(int link) {
            int from = first(link);
            int to = last(link);
            weigh(from, to, 0, 0, now.hour, 0);
            return strain(from, to, link);
        }

        /** How strong the link before the boat to must be, if no other link from there on tears. */
        int lastLinkNeeds(int from, int to) {
            for (int link = from; link < to - 1; link++) {
                if (excess(from, to, link) > 0) {
                    return NONE;
                }
            }
            int size = to - from + 1;
            return (strain(from, to, to - 1) + size - 1) / size;
        }

        int tornInDay(int gale) {
            for (int to = 0; to < bay.boats; to++) {
                int from = first(to);
                for (int hour = 0; hour < DAY && last(to) == to; hour++) {
                    weigh(from, to, 0, 0, hour, gale);
                    if (anyTears(from, to)) {
                        return 1;
                    }
                }
            }
            return 0;
        }

        int lostInDay(int gale) {
            int lost = 0;
            for (int b = 0; b < bay.boats; b++) {
                int greatest = 0;
                for (int hour = 0; hour < DAY; hour++) {
                    greatest = Math.max(greatest, sea.force(b, now.x[b], now.y[b], hour, gale));
                }
                lost += greatest > bay.loose ? 1 : 0;
            }
            return lost;
        }
    }

    /** What boats catch, tried on a copy of fish and holds; only keep() makes it so. */
    private static final class Nets {
        static final int USUAL = 3;
        static final int KEENS = 5;
        static final int SWEPT = 2;

        final Bay bay;
        final State now;
        final int[] fish = new int[CELLS];
        final int[] room = new int[MOST_BOATS];
        final int[] together = new int[MOST_BOATS + 1];

        Nets(Bay bay, State now) {
            this.bay = bay;
            this.now = now;
        }

        int haul(int from, int to, int dx, int dy) {
            System.arraycopy(now.fish, 0, fish, 0, CELLS);
            int got = 0;
            for (int b = from; b <= to; b++) {
                room[b] = bay.holds(b) - now.caught[b];
                int most = bay.kind[b] == KEEN ? KEENS : USUAL;
                got += lift(b, now.x[b] + dx, now.y[b] + dy, most);
            }
            for (int link = from; link < to; link++) {
                if (now.torn[link] == 0) {
                    got += sweep(link, dx, dy);
                }
            }
            return got;
        }

        private int lift(int boat, int x, int y, int most) {
            int cell = y * SIDE + x;
            int got = Math.min(most, Math.min(fish[cell], room[boat]));
            fish[cell] -= got;
            room[boat] -= got;
            return got;
        }

        private int sweep(int link, int dx, int dy) {
            int wayX = sign(now.x[link + 1] - now.x[link]);
            int wayY = sign(now.y[link + 1] - now.y[link]);
            if (wayX != 0 && wayY != 0) {
                return 0;
            }
            int got = 0;
            int apart = now.apart(link);
            for (int step = 1; step < apart; step++) {
                int x = now.x[link] + dx + wayX * step;
                int y = now.y[link] + dy + wayY * step;
                got += lift(link, x, y, SWEPT);
                got += lift(link + 1, x, y, SWEPT);
            }
            return got;
        }

        private static int sign(int value) {
            return value > 0 ? 1 : value < 0 ? -1 : 0;
        }

        /** Behind a haul of all boats where they are. */
        void keep() {
            System.arraycopy(fish, 0, now.fish, 0, CELLS);
            for (int b = 0; b < bay.boats; b++) {
                now.caught[b] = bay.holds(b) - room[b];
            }
        }

        /** The least that boats before k have together follows from the same for all before it. */
        int fairShare(int boat) {
            together[0] = 0;
            for (int k = 1; k <= bay.boats; k++) {
                together[k] = 0;
                for (int i = 0; i < k; i++) {
                    together[k] = Math.max(together[k], together[i] + haul(i, k - 1, 0, 0));
                }
            }
            boolean given = together[bay.boats] == haul(0, bay.boats - 1, 0, 0);
            return given ? together[boat + 1] - together[boat] : NONE;
        }
    }

    /** How soon a part can be where it catches so much, hour by hour over where its first boat is. */
    private static final class Course {
        static final int BARRED = 0;
        static final int POOR = 1;
        static final int GOOD = 2;
        static final int MOST_STOPS = (DAY + 1) * CELLS;

        final Bay bay;
        final State now;
        final Cable cable;
        final Nets nets;
        final int[] moves = new int[DAY];
        final int[] sort = new int[CELLS];
        final int[] seen = new int[CELLS];
        final int[] stop = new int[MOST_STOPS];
        final int[] cameBy = new int[DAY * CELLS];
        int from;
        int to;
        int stops;

        Course(Bay bay, State now, Cable cable, Nets nets) {
            this.bay = bay;
            this.now = now;
            this.cable = cable;
            this.nets = nets;
        }

        /** The stops of an hour lie in the order of their first rows, so the first good one is due. */
        int find(int boat, int fish) {
            from = cable.first(boat);
            to = cable.last(boat);
            sortCells(fish);
            Arrays.fill(seen, 0);
            stop[0] = now.y[from] * SIDE + now.x[from];
            stops = 1;
            int begin = 0;
            for (int hours = 0; hours <= DAY; hours++) {
                int end = stops;
                for (int at = begin; at < end; at++) {
                    if (sort[stop[at]] == GOOD) {
                        trace(stop[at], hours);
                        return hours;
                    }
                }
                for (int at = begin; at < end && hours < DAY; at++) {
                    spread(stop[at], hours);
                }
                begin = end;
            }
            return NONE;
        }

        private void sortCells(int fish) {
            for (int cell = 0; cell < CELLS; cell++) {
                int dx = cell % SIDE - now.x[from];
                int dy = cell / SIDE - now.y[from];
                if (!cable.fits(from, to, dx, dy)) {
                    sort[cell] = BARRED;
                } else {
                    sort[cell] = nets.haul(from, to, dx, dy) >= fish ? GOOD : POOR;
                }
            }
        }

        private void spread(int cell, int hours) {
            int ways = cable.heldBySlow(from, to, now.hour + hours) ? 1 : WAYS;
            for (int way = 0; way < ways; way++) {
                int x = cell % SIDE + WAY_X[way];
                int y = cell / SIDE + WAY_Y[way];
                if (claim(x, y, hours)) {
                    cable.weigh(from, to, x - now.x[from], y - now.y[from], now.hour + hours, 0);
                    if (!cable.anyTears(from, to) && stops < MOST_STOPS) {
                        cameBy[hours * CELLS + y * SIDE + x] = way;
                        stop[stops] = y * SIDE + x;
                        stops++;
                    }
                }
            }
        }

        /** True once an hour for each place where the part can be: its first row is the first to come. */
        private boolean claim(int x, int y, int hours) {
            if (!bay.inside(x, y)) {
                return false;
            }
            int cell = y * SIDE + x;
            boolean fresh = sort[cell] != BARRED && seen[cell] <= hours;
            seen[cell] = hours + 1;
            return fresh;
        }

        private void trace(int last, int hours) {
            int cell = last;
            for (int i = hours - 1; i >= 0 && cell >= 0 && cell < CELLS; i--) {
                int way = cameBy[i * CELLS + cell];
                moves[i] = way;
                cell -= WAY_Y[way] * SIDE + WAY_X[way];
            }
        }
    }

    /** What the boats wish at dawn, and what comes of it. */
    private static final class Council {
        final Bay bay;
        final State now;
        final Sea sea;
        final Cable cable;
        final boolean[] can = new boolean[WAYS];
        final int[] wishes = new int[MOST_BOATS * WAYS];
        final int[] facts = new int[Law.FACTS];

        Council(Bay bay, State now, Sea sea, Cable cable) {
            this.bay = bay;
            this.now = now;
            this.sea = sea;
            this.cable = cable;
        }

        void hear() {
            for (int way = 0; way < WAYS; way++) {
                can[way] = cable.fits(0, bay.boats - 1, WAY_X[way], WAY_Y[way]);
                for (int b = 0; b < bay.boats && can[way]; b++) {
                    wishes[b * WAYS + way] = wished(b, now.x[b] + WAY_X[way], now.y[b] + WAY_Y[way]);
                }
            }
        }

        private int wished(int boat, int x, int y) {
            facts[Law.FISH] = now.fish[y * SIDE + x];
            facts[Law.ROUGH] = sea.swell(x, y, now.hour);
            facts[Law.ROOM] = bay.holds(boat) - now.caught[boat];
            facts[Law.FAR] = Math.abs(x - bay.homeX[boat]) + Math.abs(y - bay.homeY[boat]);
            facts[Law.X] = x;
            facts[Law.Y] = y;
            facts[Law.HOUR] = Math.floorMod(now.hour, DAY);
            return within(bay.wishLaw.value(facts));
        }

        /** Of the ways that can be and are not among the barred bits. */
        int favoured(int barred) {
            int favoured = NONE;
            int greatest = NONE;
            for (int way = 0; way < WAYS; way++) {
                if (can[way] && (barred & 1 << way) == 0) {
                    int weight = 0;
                    for (int b = 0; b < bay.boats; b++) {
                        weight += bay.trust[b] * wishes[b * WAYS + way];
                    }
                    if (weight > greatest) {
                        greatest = weight;
                        favoured = way;
                    }
                }
            }
            return favoured;
        }

        int bests() {
            int bits = 0;
            for (int b = 0; b < bay.boats; b++) {
                int best = 0;
                for (int way = 1; way < WAYS; way++) {
                    if (can[way] && wishes[b * WAYS + way] > wishes[b * WAYS + best]) {
                        best = way;
                    }
                }
                bits |= 1 << best;
            }
            return bits;
        }

        /** No untruth does more for a way than all for it and nothing for the others. */
        int gains(int boat) {
            int bits = 0;
            for (int aim = 0; aim < WAYS; aim++) {
                for (int way = 0; way < WAYS; way++) {
                    wishes[boat * WAYS + way] = way == aim ? TOP : 0;
                }
                if (favoured(0) == aim) {
                    bits |= 1 << aim;
                }
            }
            return bits;
        }
    }

    /** Tries all orders of the boats along the cable, the first ones first. */
    private static final class Storm {
        final Bay bay;
        final State now;
        final Sea sea;
        final Cable cable;
        final int[] forces = new int[MOST_BOATS * MOST_BOATS];
        final int[] row = new int[MOST_BOATS];
        final int[] best = new int[MOST_BOATS];
        int least;

        Storm(Bay bay, State now, Sea sea, Cable cable) {
            this.bay = bay;
            this.now = now;
            this.sea = sea;
            this.cable = cable;
        }

        void search() {
            for (int place = 0; place < bay.boats; place++) {
                for (int b = 0; b < bay.boats; b++) {
                    forces[place * MOST_BOATS + b] =
                        sea.force(b, now.x[place], now.y[place], now.hour, 0);
                }
            }
            least = Integer.MAX_VALUE;
            cable.before[0] = 0;
            lay(0, 0);
        }

        private void lay(int place, int used) {
            if (place >= bay.boats) {
                judge();
                return;
            }
            for (int b = 0; b < bay.boats; b++) {
                if ((used & 1 << b) == 0) {
                    row[place] = b;
                    cable.load(place, forces[place * MOST_BOATS + b]);
                    lay(place + 1, used | 1 << b);
                }
            }
        }

        private void judge() {
            int greatest = Integer.MIN_VALUE;
            for (int link = 0; link < bay.boats - 1 && greatest < least; link++) {
                greatest = Math.max(greatest, cable.excess(0, bay.boats - 1, link));
            }
            if (greatest < least) {
                least = greatest;
                System.arraycopy(row, 0, best, 0, MOST_BOATS);
            }
        }
    }
}
