/**
 * An office for a year abroad: families that send a child and take one in, host for host.
 * What each call promises stands in the document; every array is made in a constructor and
 * used again, so no later call makes an object.
 */
public final class HostYear {
    public static final int NONE = -1;

    private static final int MAX_FAMILIES = 12;
    private static final int MAX_FACTS = 400;
    private static final int LAST_DAY = 100000;
    private static final int MAX_BYTES = 3000;
    private static final int FED_BYTES = 20;

    private static final int HAD_ALREADY = -2;
    private static final int NOT_CLOSED = -3;

    // What is known of one FAMILY is a row of columns: the six plain FACTS, the TRAITS, the WISHES.
    private static final int PUPIL = 0;
    private static final int HOME = 1;
    private static final int GIVER = 2;
    private static final int TRUST = 3;
    private static final int PAPERS = 4;
    private static final int PRICE = 5;
    private static final int TRAIT_COLUMN = 6;
    private static final int WISH_COLUMN = 14;
    private static final int COLUMNS = 26;
    private static final int TRAIT_WHAT = 10;
    private static final int WISH_WHAT = 20;

    private static final int SYNTAX = 1;
    private static final int ROOM = 2;
    private static final int TWICE = 3;
    private static final int UNTOLD = 4;

    private static final int MAX_TOKENS = 600;
    private static final int MAX_TRAITS = 8;
    private static final int MAX_RULES = 20;
    private static final int MAX_OPEN = 8;
    private static final int NAME_LENGTH = 8;
    private static final int NUMBER_LENGTH = 4;

    // Kinds of TOKENS; a SIGN of one byte is its own kind, and all of those are above 39.
    private static final int END = 0;
    private static final int NO_TOKEN = 1;
    private static final int NAME = 2;
    private static final int NUMBER = 3;
    private static final int EQUAL = 4;
    private static final int UNEQUAL = 5;
    private static final int UP_TO = 6;
    private static final int FIRST_WORD = 10;
    private static final int TRAIT_WORD = 10;
    private static final int BAR_WORD = 11;
    private static final int COST_WORD = 12;
    private static final int IF_WORD = 13;
    private static final int OR_WORD = 14;
    private static final int AND_WORD = 15;
    private static final int NOT_WORD = 16;
    private static final int P_WORD = 17;
    private static final int H_WORD = 18;

    /** trait, bar, cost, if, or, and, not, p, h: their bytes, the first the highest. */
    private static final long[] WORDS = {
        0x7472616974L, 0x626172L, 0x636F7374L, 0x6966L, 0x6F72L, 0x616E64L, 0x6E6F74L, 0x70L, 0x68L
    };

    // Steps of a text's code, which works on a stack; a step's argument fills its low bits.
    private static final int PUSH_NUMBER = 0;
    private static final int PUSH_PUPIL = 1;
    private static final int PUSH_HOME = 2;
    private static final int NEGATE = 3;
    private static final int INVERT = 4;
    private static final int ADD = 5;
    private static final int SUBTRACT = 6;
    private static final int MULTIPLY = 7;
    private static final int IS_EQUAL = 8;
    private static final int IS_UNEQUAL = 9;
    private static final int IS_BELOW = 10;
    private static final int IS_UP_TO = 11;
    private static final int BOTH = 12;
    private static final int EITHER = 13;
    private static final int ARGUMENT_BITS = 16;
    private static final int ARGUMENT_MASK = 0xFFFF;
    // Eight that are open leave at most two values each behind, and the outermost level a few.
    private static final int STACK = 64;

    private static final int WHY_SAME = 1;
    private static final int WHY_NO_PUPIL = 2;
    private static final int WHY_NO_HOME = 3;
    private static final int WHY_NO_WISH = 4;
    private static final int WHY_PAPERS = 5;
    private static final int WHY_BAR = 10;
    private static final int MAX_COST = 10000;

    // One who goes outweighs the COST of all, one who MOVES outweighs all that and all who go.
    private static final long GO_WEIGHT = 1L << 18;
    private static final long MOVE_WEIGHT = 1L << 23;
    private static final long FAR = 1L << 50;
    private static final long BEYOND = 1L << 60;

    private final FactBook facts = new FactBook();
    private final Tape tape = new Tape();
    private final Parser parser = new Parser();
    private final Judge judge = new Judge();
    private final Planner planner = new Planner();
    private final Year year = new Year();
    private final Ledger ledger = new Ledger();
    private final int[] hand = new int[MAX_FAMILIES];
    private Text first = new Text();
    private Text second = new Text();
    private boolean isAtHand = false;
    private int handCost = 0;
    private int families = 0;
    private int today = 0;
    private int lastTerm = 0;
    private int years = 0;

    public HostYear() {
    }

    public int feed(int a, int b, int c, int d, int e) {
        if (tape.length + FED_BYTES > MAX_BYTES) {
            return NONE;
        }
        tape.append(a);
        tape.append(b);
        tape.append(c);
        tape.append(d);
        tape.append(e);
        return tape.length;
    }

    public int back(int n) {
        if (n < 0 || n > tape.length) {
            return NONE;
        }
        tape.length -= n;
        return tape.length;
    }

    public int read(int slot) {
        if (textOf(slot) == null) {
            return NONE;
        }
        int fault = parser.parse(tape);
        tape.length = 0;
        if (fault == 0 && slot == 0) {
            first = parser.exchange(first);
        } else if (fault == 0) {
            second = parser.exchange(second);
        }
        return fault;
    }

    public int place() {
        return parser.faultPlace;
    }

    public int family() {
        if (families >= MAX_FAMILIES) {
            return NONE;
        }
        families++;
        return families - 1;
    }

    public boolean clock(int day) {
        if (day < today || day > LAST_DAY) {
            return false;
        }
        today = day;
        return true;
    }

    public boolean term(int day) {
        if (!isDay(day)) {
            return false;
        }
        lastTerm = day;
        return true;
    }

    public int tell(int f, int what, int v) {
        int column = columnOf(what);
        if (!isFamily(f) || column == NONE || v < leastOf(column) || v > mostOf(column)) {
            return NONE;
        }
        return facts.add(f * COLUMNS + column, v, today);
    }

    public int known(int f, int what, int day) {
        int column = columnOf(what);
        if (!isFamily(f) || column == NONE || !isDay(day)) {
            return 0;
        }
        return facts.latest(f * COLUMNS + column, day);
    }

    public int why(int slot, int day, int p, int h) {
        Text text = textOf(slot);
        if (text == null || !isDay(day) || !isFamily(p) || !isFamily(h)) {
            return NONE;
        }
        facts.fill(judge.view, day);
        return judge.reason(text, lastTerm, p, h);
    }

    public int cost(int slot, int day, int p, int h) {
        Text text = textOf(slot);
        if (text == null || !isDay(day) || !isFamily(p) || !isFamily(h)) {
            return NONE;
        }
        facts.fill(judge.view, day);
        return judge.costOrNone(text, lastTerm, p, h);
    }

    public int round(int slot, int day) {
        Text text = textOf(slot);
        if (text == null || !isDay(day)) {
            return NONE;
        }
        prepare(text, day);
        planner.forget();
        planner.decide();
        for (int p = 0; p < MAX_FAMILIES; p++) {
            hand[p] = planner.home[p];
        }
        isAtHand = true;
        handCost = planner.costTogether();
        return goingIn(hand);
    }

    public int goes(int p) {
        return isAtHand && isFamily(p) ? hand[p] : NONE;
    }

    public int costs() {
        return isAtHand ? handCost : NONE;
    }

    public int take() {
        if (!isAtHand) {
            return NONE;
        }
        if (year.hasBegun) {
            return HAD_ALREADY;
        }
        prepare(first, today);
        if (!planner.allows(hand)) {
            return NOT_CLOSED;
        }
        year.begin(hand);
        return goingIn(year.home);
    }

    public int fall(int p) {
        if (!isFamily(p) || year.home[p] == NONE) {
            return NONE;
        }
        year.dropOut(p);
        prepare(first, today);
        planner.remember(year);
        planner.decide();
        return year.change(planner.home);
    }

    public int moved(int i) {
        return i < 0 || i >= year.movers || i >= MAX_FAMILIES ? NONE : year.mover[i];
    }

    public int close() {
        int went = goingIn(year.home);
        facts.fill(judge.view, today);
        for (int f = 0; f < MAX_FAMILIES; f++) {
            int home = year.home[f];
            ledger.settle(f, home != NONE, year.guestOf(f) != NONE);
            if (home != NONE) {
                ledger.pay(f, home, judge.fact(home, PRICE));
            }
        }
        year.clear();
        years++;
        return went;
    }

    public int link(int p, int i) {
        if (!isFamily(p) || i < 0 || i >= MAX_FAMILIES) {
            return NONE;
        }
        int last = p;
        for (int step = 0; step < i; step++) {
            last = year.home[last];
            if (!isFamily(last) || last == p) {
                return NONE;
            }
        }
        return last;
    }

    public int of(int f, int what) {
        if (!isFamily(f)) {
            return NONE;
        }
        switch (what) {
            case 0:
                return year.home[f];
            case 1:
                return year.guestOf(f);
            case 2:
                return year.isOut[f] ? 1 : 0;
            case 3:
                return ledger.debt[f];
            case 4:
                return ledger.given[f];
            case 5:
                return ledger.money[f];
            default:
                return NONE;
        }
    }

    public int count(int what) {
        switch (what) {
            case 0:
                return families;
            case 1:
                return facts.size;
            case 2:
                return today;
            case 3:
                return lastTerm;
            case 4:
                return years;
            case 5:
                return goingIn(year.home);
            case 6:
                return first.rules;
            case 7:
                return second.rules;
            case 8:
                return tape.length;
            default:
                return NONE;
        }
    }

    private boolean isFamily(int f) {
        return f >= 0 && f < families && f < MAX_FAMILIES;
    }

    private static boolean isDay(int day) {
        return day >= 0 && day <= LAST_DAY;
    }

    private Text textOf(int slot) {
        if (slot == 0) {
            return first;
        }
        return slot == 1 ? second : null;
    }

    private int columnOf(int what) {
        if (what >= PUPIL && what <= PRICE) {
            return what;
        }
        if (what >= TRAIT_WHAT && what < TRAIT_WHAT + MAX_TRAITS) {
            return TRAIT_COLUMN + (what - TRAIT_WHAT);
        }
        if (what >= WISH_WHAT && what < WISH_WHAT + families) {
            return WISH_COLUMN + (what - WISH_WHAT);
        }
        return NONE;
    }

    private static int leastOf(int column) {
        return column >= TRAIT_COLUMN && column < WISH_COLUMN ? -999 : 0;
    }

    private static int mostOf(int column) {
        if (column <= TRUST) {
            return 1;
        }
        if (column == PAPERS) {
            return LAST_DAY;
        }
        if (column == PRICE) {
            return 1000;
        }
        return column < WISH_COLUMN ? 999 : 9;
    }

    /** Tells the planner what PLACES may be, by a text and what was known on a DAY. */
    private void prepare(Text text, int day) {
        facts.fill(judge.view, day);
        planner.size = families;
        for (int f = 0; f < families && f < MAX_FAMILIES; f++) {
            boolean hasDebt = ledger.debt[f] > 0;
            planner.mayBeLast[f] = judge.fact(f, GIVER) == 1 || hasDebt;
            planner.mayBeFirst[f] = judge.fact(f, TRUST) == 1 && !hasDebt;
            for (int h = 0; h < families && h < MAX_FAMILIES; h++) {
                planner.cost[f * MAX_FAMILIES + h] = judge.costOrNone(text, lastTerm, f, h);
            }
        }
    }

    private static int goingIn(int[] homes) {
        int going = 0;
        for (int p = 0; p < homes.length; p++) {
            if (homes[p] != NONE) {
                going++;
            }
        }
        return going;
    }

    /** The pupil who is in a HOME by these PLACES, or NONE. */
    private static int guestIn(int[] homes, int h) {
        for (int p = 0; p < homes.length; p++) {
            if (homes[p] == h) {
                return p;
            }
        }
        return NONE;
    }

    /** The FACTS in the order of their telling, each with its DAY; the CLOCK never goes back. */
    private static final class FactBook {
        private final int[] cell = new int[MAX_FACTS];
        private final int[] value = new int[MAX_FACTS];
        private final int[] told = new int[MAX_FACTS];
        int size = 0;

        int add(int newCell, int newValue, int day) {
            if (size >= MAX_FACTS) {
                return NONE;
            }
            cell[size] = newCell;
            value[size] = newValue;
            told[size] = day;
            size++;
            return size - 1;
        }

        int latest(int wanted, int day) {
            for (int i = size - 1; i >= 0; i--) {
                if (cell[i] == wanted && told[i] <= day) {
                    return value[i];
                }
            }
            return 0;
        }

        void fill(int[] view, int day) {
            for (int i = 0; i < view.length; i++) {
                view[i] = 0;
            }
            for (int i = 0; i < size && told[i] <= day; i++) {
                if (cell[i] >= 0 && cell[i] < view.length) {
                    view[cell[i]] = value[i];
                }
            }
        }
    }

    private static final class Tape {
        private final byte[] bytes = new byte[MAX_BYTES];
        int length = 0;

        void append(int four) {
            for (int shift = 24; shift >= 0 && length < MAX_BYTES; shift -= 8) {
                bytes[length] = (byte) (four >> shift);
                length++;
            }
        }

        /** NONE behind the end, so that what follows can be looked at without asking first. */
        int byteAt(int i) {
            return i < 0 || i >= length || i >= MAX_BYTES ? NONE : bytes[i] & 255;
        }
    }

    /** The TOKENS of a tape, up to the first that is too many, or to END or what is none. */
    private static final class Tokens {
        final int[] kind = new int[MAX_TOKENS + 1];
        final int[] start = new int[MAX_TOKENS + 1];
        final long[] value = new long[MAX_TOKENS + 1];

        void scan(Tape tape) {
            int at = 0;
            boolean goesOn = true;
            for (int i = 0; i <= MAX_TOKENS && goesOn; i++) {
                at = behindBlanks(tape, at);
                start[i] = at;
                at = scanOne(tape, at, i);
                goesOn = kind[i] != END && kind[i] != NO_TOKEN;
            }
        }

        private static int behindBlanks(Tape tape, int from) {
            int at = from;
            while (at < tape.length && isBlank(tape.byteAt(at))) {
                at++;
            }
            return at;
        }

        /** Writes TOKEN i, and tells the byte behind it. */
        private int scanOne(Tape tape, int at, int i) {
            int b = tape.byteAt(at);
            if (b == NONE) {
                kind[i] = END;
                return at;
            }
            if (isLetter(b)) {
                return scanName(tape, at, i);
            }
            if (isDigit(b)) {
                return scanNumber(tape, at, i);
            }
            kind[i] = signAt(tape, at);
            boolean isLong = kind[i] == EQUAL || kind[i] == UNEQUAL || kind[i] == UP_TO;
            return isLong ? at + 2 : at + 1;
        }

        private int scanName(Tape tape, int from, int i) {
            int at = from;
            long packed = 0;
            while (at < tape.length && (isLetter(tape.byteAt(at)) || isDigit(tape.byteAt(at)))) {
                packed = (packed << 8) | tape.byteAt(at);
                at++;
            }
            value[i] = packed;
            kind[i] = at - from > NAME_LENGTH ? NO_TOKEN : wordOrName(packed);
            return at;
        }

        private int scanNumber(Tape tape, int from, int i) {
            int at = from;
            long number = 0;
            while (at < tape.length && isDigit(tape.byteAt(at))) {
                number = number * 10 + (tape.byteAt(at) - '0');
                at++;
            }
            value[i] = number;
            kind[i] = at - from > NUMBER_LENGTH ? NO_TOKEN : NUMBER;
            return at;
        }

        private static int signAt(Tape tape, int at) {
            int b = tape.byteAt(at);
            boolean isEqualNext = tape.byteAt(at + 1) == '=';
            switch (b) {
                case ';': case '.': case '(': case ')': case '[': case ']':
                case '+': case '-': case '*':
                    return b;
                case '=':
                    return isEqualNext ? EQUAL : NO_TOKEN;
                case '!':
                    return isEqualNext ? UNEQUAL : NO_TOKEN;
                case '<':
                    return isEqualNext ? UP_TO : b;
                default:
                    return NO_TOKEN;
            }
        }

        private static int wordOrName(long packed) {
            for (int i = 0; i < WORDS.length; i++) {
                if (WORDS[i] == packed) {
                    return FIRST_WORD + i;
                }
            }
            return NAME;
        }

        private static boolean isBlank(int b) {
            return b == 9 || b == 10 || b == 13 || b == 32;
        }

        private static boolean isLetter(int b) {
            return b >= 'a' && b <= 'z';
        }

        private static boolean isDigit(int b) {
            return b >= '0' && b <= '9';
        }
    }

    /** A text as code: of each RULE first the E (a bar has none), then the COND (maybe none). */
    private static final class Text {
        final int[] code = new int[MAX_TOKENS];
        final boolean[] isBar = new boolean[MAX_RULES];
        final int[] from = new int[MAX_RULES];
        final int[] condFrom = new int[MAX_RULES];
        final int[] to = new int[MAX_RULES];
        final long[] trait = new long[MAX_TRAITS];
        int size = 0;
        int rules = 0;
        int traits = 0;

        void clear() {
            size = 0;
            rules = 0;
            traits = 0;
        }

        void addStep(int step, int argument) {
            if (size < MAX_TOKENS) {
                code[size] = (step << ARGUMENT_BITS) | (argument & ARGUMENT_MASK);
                size++;
            }
        }

        void addTrait(long name) {
            if (traits < MAX_TRAITS) {
                trait[traits] = name;
                traits++;
            }
        }

        int traitNamed(long name) {
            for (int k = 0; k < traits && k < MAX_TRAITS; k++) {
                if (trait[k] == name) {
                    return k;
                }
            }
            return NONE;
        }

        void addRule(boolean bars, int start, int condStart) {
            if (rules < MAX_RULES) {
                isBar[rules] = bars;
                from[rules] = start;
                condFrom[rules] = condStart;
                to[rules] = size;
                rules++;
            }
        }
    }

    /**
     * Goes through the TOKENS once, from the left, and never past one that does not fit: so the
     * first FAULT met is the first by its place, and at one place SYNTAX is asked ahead of ROOM.
     */
    private static final class Parser {
        private final Tokens tokens = new Tokens();
        private Text text = new Text();
        // The TOKEN at hand, 0 .. MAX_TOKENS: only expect() goes on, and never past that.
        private int at = 0;
        private int open = 0;
        private int fault = 0;
        private int lateFault = 0;
        private int latePlace = NONE;
        int faultPlace = NONE;

        /** Hands out the text just read, for one that the next read may write over. */
        Text exchange(Text old) {
            Text done = text;
            text = old;
            return done;
        }

        int parse(Tape tape) {
            tokens.scan(tape);
            text.clear();
            at = 0;
            open = 0;
            fault = 0;
            lateFault = 0;
            latePlace = NONE;
            for (int i = 0; i <= MAX_TRAITS && sees(TRAIT_WORD); i++) {
                readTrait();
            }
            for (int i = 0; i <= MAX_RULES && (sees(BAR_WORD) || sees(COST_WORD)); i++) {
                readRule();
            }
            if (!sees(END)) {
                fail(SYNTAX);
            }
            if (fault == 0) {
                fault = lateFault;
                faultPlace = latePlace;
            }
            return fault;
        }

        private void readTrait() {
            if (text.traits == MAX_TRAITS) {
                fail(ROOM);
            }
            expect(TRAIT_WORD);
            if (sees(NAME)) {
                long name = tokens.value[at];
                if (text.traitNamed(name) != NONE) {
                    failLate(TWICE);
                }
                text.addTrait(name);
            }
            expect(NAME);
            expect(';');
        }

        private void readRule() {
            if (text.rules == MAX_RULES) {
                fail(ROOM);
            }
            int start = text.size;
            int condStart = start;
            boolean bars = sees(BAR_WORD);
            expect(bars ? BAR_WORD : COST_WORD);
            if (bars) {
                readCond();
            } else {
                readSum();
                condStart = text.size;
                if (accepts(IF_WORD)) {
                    readCond();
                }
            }
            expect(';');
            text.addRule(bars, start, condStart);
        }

        private void readCond() {
            readAll();
            for (int i = 0; i < MAX_TOKENS && accepts(OR_WORD); i++) {
                readAll();
                text.addStep(EITHER, 0);
            }
        }

        private void readAll() {
            readLit();
            for (int i = 0; i < MAX_TOKENS && accepts(AND_WORD); i++) {
                readLit();
                text.addStep(BOTH, 0);
            }
        }

        private void readLit() {
            if (opens(NOT_WORD)) {
                readLit();
                text.addStep(INVERT, 0);
                open--;
            } else if (opens('[')) {
                readCond();
                expect(']');
                open--;
            } else {
                readSum();
                int step = relationStep();
                if (step == NONE) {
                    fail(SYNTAX);
                }
                expect(tokens.kind[at]);
                readSum();
                text.addStep(step, 0);
            }
        }

        private int relationStep() {
            switch (tokens.kind[at]) {
                case EQUAL:
                    return IS_EQUAL;
                case UNEQUAL:
                    return IS_UNEQUAL;
                case '<':
                    return IS_BELOW;
                case UP_TO:
                    return IS_UP_TO;
                default:
                    return NONE;
            }
        }

        private void readSum() {
            boolean isNegative = accepts('-');
            readPart();
            if (isNegative) {
                text.addStep(NEGATE, 0);
            }
            for (int i = 0; i < MAX_TOKENS && (sees('+') || sees('-')); i++) {
                int step = sees('+') ? ADD : SUBTRACT;
                expect(tokens.kind[at]);
                readPart();
                text.addStep(step, 0);
            }
        }

        private void readPart() {
            readUnit();
            for (int i = 0; i < MAX_TOKENS && accepts('*'); i++) {
                readUnit();
                text.addStep(MULTIPLY, 0);
            }
        }

        private void readUnit() {
            if (sees(NUMBER)) {
                text.addStep(PUSH_NUMBER, (int) tokens.value[at]);
                expect(NUMBER);
            } else if (sees(P_WORD) || sees(H_WORD)) {
                readTraitOf(sees(P_WORD) ? PUSH_PUPIL : PUSH_HOME);
            } else if (opens('(')) {
                readSum();
                expect(')');
                open--;
            } else {
                fail(SYNTAX);
            }
        }

        private void readTraitOf(int step) {
            expect(tokens.kind[at]);
            expect('.');
            if (sees(NAME)) {
                int k = text.traitNamed(tokens.value[at]);
                if (k == NONE) {
                    failLate(UNTOLD);
                }
                text.addStep(step, k);
            }
            expect(NAME);
        }

        /** Nothing is seen behind a FAULT, so that all that is open ends at once. */
        private boolean sees(int kind) {
            return fault == 0 && tokens.kind[at] == kind;
        }

        private boolean accepts(int kind) {
            if (!sees(kind)) {
                return false;
            }
            expect(kind);
            return fault == 0;
        }

        private boolean opens(int kind) {
            if (!sees(kind)) {
                return false;
            }
            if (open >= MAX_OPEN) {
                fail(ROOM);
                return false;
            }
            open++;
            expect(kind);
            return fault == 0;
        }

        private void expect(int kind) {
            if (!sees(kind)) {
                fail(SYNTAX);
            } else if (at >= MAX_TOKENS) {
                fail(ROOM);
            } else {
                at++;
            }
        }

        private void fail(int number) {
            if (fault == 0) {
                fault = number;
                faultPlace = tokens.start[at];
            }
        }

        private void failLate(int number) {
            if (lateFault == 0) {
                lateFault = number;
                latePlace = tokens.start[at];
            }
        }
    }

    /** Says WHY not, and the COST, by a text and by the view of what was known on a DAY. */
    private static final class Judge {
        final int[] view = new int[MAX_FAMILIES * COLUMNS];
        private final int[] stack = new int[STACK];

        int fact(int f, int column) {
            int cell = f * COLUMNS + column;
            return cell < 0 || cell >= view.length ? 0 : view[cell];
        }

        int reason(Text text, int term, int p, int h) {
            if (p == h) {
                return WHY_SAME;
            }
            if (fact(p, PUPIL) == 0) {
                return WHY_NO_PUPIL;
            }
            if (fact(h, HOME) == 0) {
                return WHY_NO_HOME;
            }
            if (fact(p, WISH_COLUMN + h) == 0) {
                return WHY_NO_WISH;
            }
            if (fact(p, PAPERS) > term) {
                return WHY_PAPERS;
            }
            for (int k = 0; k < text.rules && k < MAX_RULES; k++) {
                if (text.isBar[k] && holds(text, k, p, h)) {
                    return WHY_BAR + k;
                }
            }
            return 0;
        }

        int costOrNone(Text text, int term, int p, int h) {
            if (reason(text, term, p, h) != 0) {
                return NONE;
            }
            int sum = fact(p, WISH_COLUMN + h);
            for (int k = 0; k < text.rules && k < MAX_RULES; k++) {
                if (!text.isBar[k] && holds(text, k, p, h)) {
                    sum += valueOf(text, text.from[k], text.condFrom[k], p, h);
                }
            }
            return Math.max(0, Math.min(sum, MAX_COST));
        }

        private boolean holds(Text text, int k, int p, int h) {
            if (k < 0 || k >= MAX_RULES) {
                return false;
            }
            boolean hasNone = text.condFrom[k] == text.to[k];
            return hasNone || valueOf(text, text.condFrom[k], text.to[k], p, h) != 0;
        }

        private int valueOf(Text text, int from, int to, int p, int h) {
            int top = 0;
            for (int i = Math.max(0, from); i < to && i < MAX_TOKENS; i++) {
                int step = text.code[i] >> ARGUMENT_BITS;
                if (step <= PUSH_HOME && top < STACK) {
                    stack[top] = leaf(step, text.code[i] & ARGUMENT_MASK, p, h);
                    top++;
                } else if (step <= INVERT && top >= 1) {
                    stack[top - 1] = step == NEGATE ? -stack[top - 1] : 1 - stack[top - 1];
                } else if (top >= 2) {
                    top--;
                    stack[top - 1] = combine(step, stack[top - 1], stack[top]);
                }
            }
            return top >= 1 ? stack[top - 1] : 0;
        }

        private int leaf(int step, int argument, int p, int h) {
            if (step == PUSH_NUMBER) {
                return argument;
            }
            return fact(step == PUSH_PUPIL ? p : h, TRAIT_COLUMN + argument);
        }

        private static int combine(int step, int x, int y) {
            switch (step) {
                case ADD:
                    return x + y;
                case SUBTRACT:
                    return x - y;
                case MULTIPLY:
                    return x * y;
                case IS_EQUAL:
                    return x == y ? 1 : 0;
                case IS_UNEQUAL:
                    return x != y ? 1 : 0;
                case IS_BELOW:
                    return x < y ? 1 : 0;
                case IS_UP_TO:
                    return x <= y ? 1 : 0;
                case BOTH:
                    return x & y;
                default:
                    return x | y;
            }
        }
    }

    /**
     * Finds the best CLOSED PLACES as a matching in which each PUPIL has one HOME and each HOME
     * one PUPIL. A PUPIL who stays is matched with its own HOME, or, if its FAMILY may be the last
     * of a chain, with the HOME of one that may be the first: that shuts the chain to a ring.
     */
    private static final class Planner {
        final int[] cost = new int[MAX_FAMILIES * MAX_FAMILIES];
        final boolean[] mayBeFirst = new boolean[MAX_FAMILIES];
        final boolean[] mayBeLast = new boolean[MAX_FAMILIES];
        final int[] home = new int[MAX_FAMILIES];
        int size = 0;
        private final boolean[] isOut = new boolean[MAX_FAMILIES];
        private final int[] before = new int[MAX_FAMILIES];
        private final Matching matching = new Matching();

        void forget() {
            for (int p = 0; p < MAX_FAMILIES; p++) {
                isOut[p] = false;
                before[p] = NONE;
            }
        }

        void remember(Year year) {
            for (int p = 0; p < MAX_FAMILIES; p++) {
                isOut[p] = year.isOut[p];
                before[p] = year.home[p];
            }
        }

        void decide() {
            weighPlaces();
            matching.solve(size);
            weighOrder();
            matching.solve(size);
            for (int p = 0; p < MAX_FAMILIES; p++) {
                home[p] = NONE;
            }
            for (int h = 0; h < size && h < MAX_FAMILIES; h++) {
                int p = matching.rowOf[h];
                if (p >= 0 && p < MAX_FAMILIES && mayGo(p, h)) {
                    home[p] = h;
                }
            }
        }

        int costTogether() {
            int sum = 0;
            for (int p = 0; p < MAX_FAMILIES; p++) {
                int cell = p * MAX_FAMILIES + home[p];
                if (home[p] >= 0 && home[p] < MAX_FAMILIES && cell < cost.length) {
                    sum += cost[cell];
                }
            }
            return sum;
        }

        /** Whether these PLACES, in which no HOME has two, are CLOSED. */
        boolean allows(int[] homes) {
            for (int f = 0; f < size && f < MAX_FAMILIES && f < homes.length; f++) {
                boolean goes = homes[f] != NONE;
                boolean hosts = guestIn(homes, f) != NONE;
                if (goes && !mayBe(f, homes[f])) {
                    return false;
                }
                if (goes && !hosts && !mayBeFirst[f] || hosts && !goes && !mayBeLast[f]) {
                    return false;
                }
            }
            return true;
        }

        private boolean mayBe(int p, int h) {
            int cell = p * MAX_FAMILIES + h;
            return h >= 0 && h < size && cell >= 0 && cell < cost.length && cost[cell] != NONE;
        }

        private boolean mayGo(int p, int h) {
            return p >= 0 && p < MAX_FAMILIES && !isOut[p] && mayBe(p, h);
        }

        private void weighPlaces() {
            for (int p = 0; p < size && p < MAX_FAMILIES; p++) {
                for (int h = 0; h < size && h < MAX_FAMILIES; h++) {
                    matching.weight[p * MAX_FAMILIES + h] = placeWeight(p, h);
                }
            }
        }

        /** To go is always lighter than to stay, so one weight for each pair is enough. */
        private long placeWeight(int p, int h) {
            if (mayGo(p, h)) {
                boolean moves = before[p] != NONE && before[p] != h;
                return cost[p * MAX_FAMILIES + h] - GO_WEIGHT + (moves ? MOVE_WEIGHT : 0);
            }
            if (p == h || mayBeLast[p] && mayBeFirst[h]) {
                return before[p] != NONE ? MOVE_WEIGHT : 0;
            }
            return FAR;
        }

        /** All that are best by weight use only tight pairs: among those, HOMES in order decide. */
        private void weighOrder() {
            long scale = 1;
            for (int p = Math.min(size, MAX_FAMILIES) - 1; p >= 0; p--) {
                for (int h = 0; h < size && h < MAX_FAMILIES; h++) {
                    int rank = mayGo(p, h) ? h : MAX_FAMILIES;
                    matching.weight[p * MAX_FAMILIES + h] = matching.isTight(p, h) ? rank * scale : FAR;
                }
                scale *= MAX_FAMILIES + 1;
            }
        }
    }

    /** The lightest full matching of rows and columns, by shortest paths, one row more at a time. */
    private static final class Matching {
        final long[] weight = new long[MAX_FAMILIES * MAX_FAMILIES];
        /** The row of each column; behind the last column stands the row that is to be placed. */
        final int[] rowOf = new int[MAX_FAMILIES + 1];
        private final long[] rowPrice = new long[MAX_FAMILIES];
        private final long[] columnPrice = new long[MAX_FAMILIES + 1];
        private final long[] slack = new long[MAX_FAMILIES + 1];
        private final int[] cameFrom = new int[MAX_FAMILIES + 1];
        private final boolean[] isSeen = new boolean[MAX_FAMILIES + 1];

        void solve(int wanted) {
            int size = Math.max(0, Math.min(wanted, MAX_FAMILIES));
            for (int i = 0; i <= MAX_FAMILIES; i++) {
                rowOf[i] = NONE;
                columnPrice[i] = 0;
                if (i < MAX_FAMILIES) {
                    rowPrice[i] = 0;
                }
            }
            for (int row = 0; row < size; row++) {
                placeRow(row, size);
            }
        }

        boolean isTight(int row, int column) {
            if (row < 0 || row >= MAX_FAMILIES || column < 0 || column >= MAX_FAMILIES) {
                return false;
            }
            long w = weight[row * MAX_FAMILIES + column];
            return w < FAR && w == rowPrice[row] + columnPrice[column];
        }

        private void placeRow(int row, int size) {
            for (int i = 0; i <= MAX_FAMILIES; i++) {
                slack[i] = BEYOND;
                isSeen[i] = false;
            }
            rowOf[size] = row;
            int column = size;
            for (int step = 0; step <= size && rowOf[column] != NONE; step++) {
                column = nextColumn(column, size);
            }
            for (int step = 0; step <= size && column != size; step++) {
                int earlier = cameFrom[column];
                rowOf[column] = rowOf[earlier];
                column = earlier;
            }
        }

        /** Looks on from a column's row, and tells the column that is nearest of those not seen. */
        private int nextColumn(int column, int size) {
            int row = rowOf[column];
            int nearest = column;
            long least = BEYOND;
            if (row < 0 || row >= MAX_FAMILIES) {
                return nearest;
            }
            isSeen[column] = true;
            for (int j = 0; j < size; j++) {
                if (isSeen[j]) {
                    continue;
                }
                long gap = weight[row * MAX_FAMILIES + j] - rowPrice[row] - columnPrice[j];
                if (gap < slack[j]) {
                    slack[j] = gap;
                    cameFrom[j] = column;
                }
                if (slack[j] < least) {
                    least = slack[j];
                    nearest = j;
                }
            }
            shiftPrices(least, size);
            return nearest;
        }

        private void shiftPrices(long by, int size) {
            for (int j = 0; j <= size; j++) {
                if (!isSeen[j]) {
                    slack[j] -= by;
                } else if (rowOf[j] >= 0 && rowOf[j] < MAX_FAMILIES) {
                    rowPrice[rowOf[j]] += by;
                    columnPrice[j] -= by;
                }
            }
        }
    }

    /** The PLACES of the YEAR that runs. */
    private static final class Year {
        final int[] home = new int[MAX_FAMILIES];
        final boolean[] isOut = new boolean[MAX_FAMILIES];
        final int[] mover = new int[MAX_FAMILIES];
        int movers = 0;
        boolean hasBegun = false;

        Year() {
            for (int f = 0; f < MAX_FAMILIES; f++) {
                home[f] = NONE;
            }
        }

        void begin(int[] homes) {
            for (int p = 0; p < MAX_FAMILIES && p < homes.length; p++) {
                home[p] = homes[p];
            }
            hasBegun = true;
        }

        void dropOut(int p) {
            if (p >= 0 && p < MAX_FAMILIES) {
                home[p] = NONE;
                isOut[p] = true;
            }
        }

        /** New PLACES behind a fall: how many had one and have another one, or none, now. */
        int change(int[] homes) {
            movers = 0;
            for (int p = 0; p < MAX_FAMILIES && p < homes.length; p++) {
                if (home[p] != NONE && home[p] != homes[p]) {
                    mover[movers] = p;
                    movers++;
                }
                home[p] = homes[p];
            }
            return movers;
        }

        int guestOf(int h) {
            return guestIn(home, h);
        }

        void clear() {
            for (int f = 0; f < MAX_FAMILIES; f++) {
                home[f] = NONE;
                isOut[f] = false;
            }
            movers = 0;
            hasBegun = false;
        }
    }

    /** What the closed YEARS have left behind. */
    private static final class Ledger {
        final int[] debt = new int[MAX_FAMILIES];
        final int[] given = new int[MAX_FAMILIES];
        final int[] money = new int[MAX_FAMILIES];

        void settle(int f, boolean went, boolean hosted) {
            if (f < 0 || f >= MAX_FAMILIES || went == hosted) {
                return;
            }
            if (went) {
                debt[f]++;
            } else if (debt[f] > 0) {
                debt[f]--;
            } else {
                given[f]++;
            }
        }

        void pay(int payer, int host, int price) {
            if (payer >= 0 && payer < MAX_FAMILIES && host >= 0 && host < MAX_FAMILIES) {
                money[payer] -= price;
                money[host] += price;
            }
        }
    }
}
