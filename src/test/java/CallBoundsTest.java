/**
 * The boundaries of the promises 1 to 12, of part I of the Terms, and of WHY and COST in part III:
 * the last input on each side of each. The sentence that a method asks for stands above it.
 */
public final class CallBoundsTest {
    private static final int NONE = -1;
    private static final int LOW = Integer.MIN_VALUE;
    private static final int HIGH = Integer.MAX_VALUE;
    private static final int BLANKS = 0x20202020;
    private static final int LAST_DAY = 100000;

    public static void main(String[] args) {
        newObject();
        bytesInOrder();
        tapeIsFull();
        tapeIsShort();
        bytesThatWent();
        slotsOfRead();
        placeOfTheLatest();
        families12();
        familiesFromTheirNumberOn();
        clockAtItsEnds();
        termAtItsEnds();
        everyWhat();
        everyValue();
        facts400();
        numbersOfFacts();
        everyFactIsItsOwn();
        knownByDays();
        knownOnTheLastDays();
        knownOfOthers();
        firstReason();
        reasonsByOneStep();
        papersAndTerm();
        whyOfOthers();
        whyByDays();
        costAtItsEnds();
        costIfItMay();
        calls512();
        Check.end("CallBoundsTest");
    }

    private static int feedBlanks(HostYear x) {
        return x.feed(BLANKS, BLANKS, BLANKS, BLANKS, BLANKS);
    }

    // 1: "No FAMILIES; empty texts; the CLOCK's DAY, the TERM are 0."
    private static void newObject() {
        HostYear x = new HostYear();
        for (int what = 0; what <= 8; what++) {
            Check.due("1: count(" + what + ")", x.count(what), 0);
        }
        Check.due("1: FAMILY 0 is not there", x.of(0, 3), NONE);
        Check.due("1: the first family()", x.family(), 0);
        Check.due("1: clock(0)", x.clock(0), true);
        x = Given.wishing(2, 0, 1, 1);
        for (int slot = 0; slot <= 1; slot++) {
            Check.due("1: an empty text bars nothing", x.why(slot, 0, 0, 1), 0);
            Check.due("1: an empty text adds nothing", x.cost(slot, 0, 0, 1), 1);
        }
        x.tell(0, 4, 1);
        Check.due("1: the TERM is 0", x.why(0, 0, 0, 1), 5);
    }

    // 2: "Twenty bytes, the highest of a first"
    private static void bytesInOrder() {
        for (int i = 0; i < 20; i++) {
            int[] words = {BLANKS, BLANKS, BLANKS, BLANKS, BLANKS};
            words[i / 4] |= 0xFF << 24 - 8 * (i % 4);
            HostYear x = new HostYear();
            Check.due("2: feed", x.feed(words[0], words[1], words[2], words[3], words[4]), 20);
            Check.due("2: read of byte " + i, x.read(0), 1);
            Check.due("2: place of byte " + i, x.place(), i);
            feedBlanks(x);
            Check.due("2: behind the tape", x.feed(words[0], words[1], words[2], words[3], words[4]), 40);
            x.read(1);
            Check.due("2: place of byte " + i + " behind", x.place(), 20 + i);
        }
    }

    // 2: "NONE, and nothing comes, if it would have more than 3,000."
    private static void tapeIsFull() {
        for (int over = 0; over <= 20; over++) {
            HostYear x = new HostYear();
            for (int i = 0; i < 149; i++) {
                feedBlanks(x);
            }
            feedBlanks(x);
            x.back(20 - over);
            int due = over == 0 ? 3000 : NONE;
            Check.due("2: feed upon " + (2980 + over), x.feed(-1, -1, -1, -1, -1), due);
            Check.due("2: bytes then", x.count(8), over == 0 ? 3000 : 2980 + over);
            Check.due("2: what came", x.read(0), over == 0 ? 1 : 0);
            Check.due("2: where", x.place(), over == 0 ? 2980 : NONE);
            Check.due("2: an empty tape takes more", feedBlanks(x), 20);
        }
    }

    // 3: "NONE, and nothing goes, if it has not so many, or n is below 0."
    private static void tapeIsShort() {
        HostYear x = new HostYear();
        Check.due("3: none of none", x.back(0), 0);
        Check.due("3: one of none", x.back(1), NONE);
        Check.due("3: -1 of none", x.back(-1), NONE);
        for (int n : new int[] {-1, -20, LOW, LOW + 1, 21, 22, 3000, HIGH}) {
            feedBlanks(x);
            x.back(x.count(8) - 20);
            Check.due("3: back(" + n + ") of 20", x.back(n), NONE);
            Check.due("3: nothing goes", x.count(8), 20);
        }
        Check.due("3: none of 20", x.back(0), 20);
        Check.due("3: one of 20", x.back(1), 19);
        Check.due("3: 20 of 19", x.back(20), NONE);
        Check.due("3: 19 of 19", x.back(19), 0);
        for (int i = 0; i < 150; i++) {
            feedBlanks(x);
        }
        Check.due("3: 3001 of 3000", x.back(3001), NONE);
        Check.due("3: 2999 of 3000", x.back(2999), 1);
        Check.due("3: one of one", x.back(1), 0);
    }

    // 3: "The last n bytes of the tape go"
    private static void bytesThatWent() {
        HostYear x = new HostYear();
        Check.lay(x, "cost 1;?");
        Check.due("3: the last one", x.back(1), 7);
        Check.lay(x, "cost 2;");
        Check.due("3: what came instead", x.read(0), 0);
        Check.due("3: two RULES", x.count(6), 2);
        Check.lay(x, "cost 1;?");
        x.back(2);
        Check.due("3: two of the last", x.read(0), 1);
        Check.due("3: the end is ahead of them", x.place(), 6);
    }

    // 4: "The tape, which is empty then"; "NONE: no such slot (the tape stays)"
    private static void slotsOfRead() {
        for (int slot : new int[] {-2, -1, 2, 3, LOW, HIGH}) {
            HostYear x = new HostYear();
            Check.lay(x, "cost 1;");
            Check.due("4: read(" + slot + ")", x.read(slot), NONE);
            Check.due("4: the tape stays", x.count(8), 7);
            Check.due("4: no RULE in slot 0", x.count(6), 0);
            Check.due("4: no RULE in slot 1", x.count(7), 0);
            Check.due("4: and is read", x.read(1), 0);
            Check.due("4: just so", x.count(7), 1);
            Check.due("4: it is empty then", x.count(8), 0);
        }
        for (int slot = 0; slot <= 1; slot++) {
            HostYear x = new HostYear();
            Check.due("4: an empty tape", x.read(slot), 0);
            Check.due("4: a text", Check.read(x, slot, "cost 1;cost 2;"), 0);
            Check.due("4: of the slot", x.count(6 + slot), 2);
            Check.due("4: of no other", x.count(7 - slot), 0);
            Check.due("4: a FAULT", Check.read(x, slot, "cost 1;?"), 1);
            Check.due("4: the tape is empty too", x.count(8), 0);
            Check.due("4: the next text begins at its begin", Check.read(x, slot, "?"), 1);
            Check.due("4: there", x.place(), 0);
            Check.due("4: an empty tape is a text", x.read(slot), 0);
            Check.due("4: without RULES", x.count(6 + slot), 0);
        }
    }

    // 5: "The byte of the latest read()'s FAULT; NONE without."
    private static void placeOfTheLatest() {
        HostYear x = new HostYear();
        Check.due("5: ahead of any", x.place(), NONE);
        x.read(0);
        Check.due("5: of an empty tape", x.place(), NONE);
        Check.read(x, 0, ";");
        Check.due("5: at byte 0", x.place(), 0);
        Check.lay(x, "cost 1;");
        Check.due("5: the tape alone changes nothing", x.place(), 0);
        x.read(1);
        Check.due("5: without", x.place(), NONE);
        Check.read(x, 1, "cost");
        Check.due("5: at the end", x.place(), 4);
        x.read(2);
        Check.due("5: a read() that is refused is none", x.place(), 4);
        Check.read(x, 0, "trait a;trait a;");
        Check.due("5: TWICE", x.place(), 14);
        Check.read(x, 0, "cost p.a;");
        Check.due("5: NAME", x.place(), 7);
        x.read(0);
        Check.due("5: an empty tape again", x.place(), NONE);
    }

    // "FAMILIES, 12 at most, numbered from 0 on"; 6: "NONE: 12 are there"
    private static void families12() {
        HostYear x = new HostYear();
        for (int f = 0; f < 12; f++) {
            Check.due("6: count(0)", x.count(0), f);
            Check.due("6: family()", x.family(), f);
        }
        for (int i = 0; i < 3; i++) {
            Check.due("6: a 13th", x.family(), NONE);
            Check.due("6: count(0) of all", x.count(0), 12);
        }
        Check.due("6: the 12th", x.tell(11, 31, 9), 0);
        Check.due("6: known of the 12th", x.known(11, 31, 0), 9);
        Check.due("6: no 13th", x.tell(12, 0, 1), NONE);
        Check.due("6: nor a WISH for it", x.tell(0, 32, 1), NONE);
    }

    /** "No such FAMILY" is true of each number until family() has told it. */
    private static void familiesFromTheirNumberOn() {
        HostYear x = new HostYear();
        for (int f = 0; f < 12; f++) {
            Check.due("6: not told of " + f, x.tell(f, 0, 1), NONE);
            Check.due("6: no WISH for " + f, x.tell(0, 20 + f, 1), NONE);
            Check.due("6: no DEBT of " + f, x.of(f, 3), NONE);
            Check.due("6: no row of " + f, x.link(f, 0), NONE);
            Check.due("6: no WHY from " + f, x.why(0, 0, f, 0), NONE);
            Check.due("6: no WHY to " + f, x.why(0, 0, 0, f), NONE);
            x.family();
            Check.due("6: told of " + f, x.tell(f, 0, 1), 2 * f);
            Check.due("6: a WISH for " + f, x.tell(0, 20 + f, 1), 2 * f + 1);
            Check.due("6: DEBT of " + f, x.of(f, 3), 0);
            Check.due("6: row of " + f, x.link(f, 0), f);
            Check.due("6: WHY from " + f, x.why(0, 0, f, 0), f == 0 ? 1 : 3);
            Check.due("6: WHY to " + f, x.why(0, 0, 0, f), f == 0 ? 1 : 3);
        }
    }

    // 7: "false, if it is below the CLOCK's, or above 100000"
    private static void clockAtItsEnds() {
        HostYear x = new HostYear();
        int[][] rows = {{-1, 0, 0}, {LOW, 0, 0}, {0, 1, 0}, {1, 1, 1}, {0, 0, 1}, {1, 1, 1}, {2, 1, 2}, {1, 0, 2},
            {LAST_DAY + 1, 0, 2}, {HIGH, 0, 2}, {LAST_DAY - 1, 1, LAST_DAY - 1}, {LAST_DAY - 2, 0, LAST_DAY - 1},
            {LAST_DAY, 1, LAST_DAY}, {LAST_DAY, 1, LAST_DAY}, {LAST_DAY - 1, 0, LAST_DAY}, {LAST_DAY + 1, 0, LAST_DAY},
            {-1, 0, LAST_DAY}, {LOW, 0, LAST_DAY}, {HIGH, 0, LAST_DAY}};
        for (int[] row : rows) {
            Check.due("7: clock(" + row[0] + ")", x.clock(row[0]), row[1] == 1);
            Check.due("7: count(2) behind clock(" + row[0] + ")", x.count(2), row[2]);
        }
        Check.due("7: the TERM is another", x.count(3), 0);
    }

    // 8: "The TERM becomes that DAY (0 .. 100000): true; false for others."
    private static void termAtItsEnds() {
        HostYear x = new HostYear();
        x.clock(7);
        int[][] rows = {{-1, 0, 0}, {LOW, 0, 0}, {0, 1, 0}, {1, 1, 1}, {LAST_DAY, 1, LAST_DAY}, {LAST_DAY + 1, 0, LAST_DAY},
            {HIGH, 0, LAST_DAY}, {-1, 0, LAST_DAY}, {6, 1, 6}, {LAST_DAY - 1, 1, LAST_DAY - 1}, {0, 1, 0}};
        for (int[] row : rows) {
            Check.due("8: term(" + row[0] + ")", x.term(row[0]), row[1] == 1);
            Check.due("8: count(3) behind term(" + row[0] + ")", x.count(3), row[2]);
        }
        Check.due("8: the CLOCK is another", x.count(2), 7);
    }

    private static boolean isWhat(int what, int families) {
        return what >= 0 && what <= 5 || what >= 10 && what <= 17 || what >= 20 && what < 20 + families;
    }

    private static int leastOf(int what) {
        return what >= 10 && what <= 17 ? -999 : 0;
    }

    private static int mostOf(int what) {
        return what <= 3 ? 1 : what == 4 ? LAST_DAY : what == 5 ? 1000 : what <= 17 ? 999 : 9;
    }

    // 9: "NONE, and nothing happens: .. no such FAMILY, what (of a WISH: no FAMILY h)"
    private static void everyWhat() {
        for (int families : new int[] {1, 2, 11, 12}) {
            HostYear x = Given.families(families);
            int told = 0;
            for (int what = -3; what <= 60; what++) {
                boolean is = isWhat(what, families);
                Check.due("9: what " + what + " of " + families, x.tell(families - 1, what, 1), is ? told : NONE);
                Check.due("10: what " + what + " of " + families, x.known(families - 1, what, 0), is ? 1 : 0);
                told += is ? 1 : 0;
                Check.due("9: count(1)", x.count(1), told);
            }
            for (int what : new int[] {LOW, LOW + 20, -26, 256, 65536, HIGH - 20, HIGH}) {
                Check.due("9: what " + what, x.tell(0, what, 1), NONE);
                Check.due("10: what " + what, x.known(0, what, 0), 0);
            }
            // By 32 bits, LOW + f times an even number is f times it: a row that is there.
            for (int f : new int[] {LOW, LOW + 1, -12, -1, families, families + 1, 13, 1 << 30, HIGH}) {
                Check.due("9: FAMILY " + f + " of " + families, x.tell(f, 0, 1), NONE);
                Check.due("10: FAMILY " + f + " of " + families, x.known(f, 0, 0), 0);
            }
            Check.due("9: count(1) behind all", x.count(1), told);
        }
    }

    // 9: "v is not 0 .. 1 (what 0 .. 3), 0 .. 100000 (4), 0 .. 1000 (5), -999 .. 999 (10 .. 17), 0 .. 9 (20 and more)"
    private static void everyValue() {
        HostYear x = Given.families(12);
        int told = 0;
        for (int what = 0; what <= 31; what++) {
            if (!isWhat(what, 12)) {
                continue;
            }
            Check.due("9: the most of what " + what, x.tell(11, what, mostOf(what)), told++);
            Check.due("10: the most of what " + what, x.known(11, what, 0), mostOf(what));
            for (int v : new int[] {mostOf(what) + 1, leastOf(what) - 1, LOW, HIGH}) {
                Check.due("9: " + v + " of what " + what, x.tell(11, what, v), NONE);
            }
            Check.due("10: nothing happened to what " + what, x.known(11, what, 0), mostOf(what));
            Check.due("9: the least of what " + what, x.tell(11, what, leastOf(what)), told++);
            Check.due("10: the least of what " + what, x.known(11, what, 0), leastOf(what));
        }
        Check.due("9: FACTS", x.count(1), told);
    }

    // 9: "400 are there"
    private static void facts400() {
        HostYear x = Given.families(1);
        for (int i = 0; i < 400; i++) {
            Check.due("9: FACT " + i, x.tell(0, 5, i), i);
        }
        Check.due("9: the 400th is known", x.known(0, 5, 0), 399);
        for (int i = 0; i < 2; i++) {
            Check.due("9: a 401st", x.tell(0, 5, 1000), NONE);
            Check.due("9: FACTS", x.count(1), 400);
            Check.due("9: nothing happened", x.known(0, 5, 0), 399);
        }
        x.clock(1);
        Check.due("9: nor on another DAY", x.tell(0, 0, 1), NONE);
        Check.due("9: nor is it known", x.known(0, 0, 1), 0);
        x.close();
        Check.due("9: nor in another YEAR", x.tell(0, 0, 1), NONE);
        Check.due("9: but FAMILIES come", x.family(), 1);
    }

    // 9: "A FACT: its number, from 0 on"
    private static void numbersOfFacts() {
        HostYear x = Given.families(2);
        Check.due("9: the first", x.tell(1, 21, 9), 0);
        Check.due("9: one that is refused", x.tell(1, 22, 9), NONE);
        Check.due("9: the second", x.tell(0, 20, 0), 1);
        x.clock(3);
        x.close();
        Check.due("9: the same once more is another", x.tell(1, 21, 9), 2);
        Check.due("9: a WISH for its own HOME", x.tell(1, 21, 1), 3);
        Check.due("22: FACTS", x.count(1), 4);
    }

    /** Each FACT alone, with all others asked: a number of one is never that of another. */
    private static void everyFactIsItsOwn() {
        for (int f = 0; f < 12; f++) {
            for (int what = 0; what <= 31; what++) {
                if (isWhat(what, 12)) {
                    HostYear x = Given.families(12);
                    x.tell(f, what, mostOf(what));
                    dueOnlyKnown(x, f, what);
                }
            }
        }
    }

    private static void dueOnlyKnown(HostYear x, int f, int what) {
        for (int other = 0; other < 12; other++) {
            for (int asked = 0; asked <= 32; asked++) {
                boolean isTold = other == f && asked == what;
                Check.due("10: known(" + other + ", " + asked + ") of one told of " + f + ", " + what,
                    x.known(other, asked, 0), isTold ? mostOf(what) : 0);
            }
        }
    }

    // "known on a DAY is the latest that was told on it or ahead (else 0)"
    private static void knownByDays() {
        HostYear x = Given.families(1);
        x.clock(1);
        x.tell(0, 10, 5);
        x.clock(3);
        x.tell(0, 10, -7);
        x.tell(0, 10, 6);
        x.tell(0, 11, 1);
        x.clock(4);
        x.tell(0, 10, 0);
        x.clock(6);
        x.tell(0, 10, 5);
        int[] due = {0, 5, 5, 6, 0, 0, 5, 5};
        for (int day = 0; day < due.length; day++) {
            Check.due("10: known on DAY " + day, x.known(0, 10, day), due[day]);
        }
        Check.due("10: ahead of DAY 3", x.known(0, 11, 2), 0);
        Check.due("10: on DAY 3", x.known(0, 11, 3), 1);
        x = Given.families(1);
        x.tell(0, 10, 8);
        Check.due("10: told on DAY 0", x.known(0, 10, 0), 8);
    }

    private static void knownOnTheLastDays() {
        HostYear x = Given.families(1);
        x.clock(LAST_DAY - 1);
        x.tell(0, 4, LAST_DAY - 1);
        x.clock(LAST_DAY);
        x.tell(0, 4, LAST_DAY);
        Check.due("10: ahead of the last two", x.known(0, 4, LAST_DAY - 2), 0);
        Check.due("10: on the last but one", x.known(0, 4, LAST_DAY - 1), LAST_DAY - 1);
        Check.due("10: on the last", x.known(0, 4, LAST_DAY), LAST_DAY);
        Check.due("10: behind the last", x.known(0, 4, LAST_DAY + 1), 0);
        Check.due("10: far behind", x.known(0, 4, HIGH), 0);
    }

    // 10: "What is known on a DAY (0 .. 100000) of FAMILY f; 0 for others."
    private static void knownOfOthers() {
        HostYear x = Given.families(12);
        for (int f = 0; f < 12; f++) {
            x.tell(f, 5, 100 + f);
        }
        Check.due("10: DAY 0", x.known(11, 5, 0), 111);
        Check.due("10: DAY 100000", x.known(11, 5, LAST_DAY), 111);
        for (int day : new int[] {-1, LOW, LAST_DAY + 1, HIGH}) {
            Check.due("10: DAY " + day, x.known(11, 5, day), 0);
        }
        for (int f : new int[] {-1, LOW, 12, HIGH}) {
            Check.due("10: FAMILY " + f, x.known(f, 5, 0), 0);
        }
    }

    // "WHY .. is the first of these": all ways in which these hold and do not
    private static void firstReason() {
        int[] reasons = {2, 3, 4, 5, 11, 13};
        for (int held = 0; held < 64; held++) {
            HostYear x = Given.families(3);
            Check.read(x, 1, "trait a;trait b;cost 1;bar p.a==1;cost 2;bar h.b==1;");
            x.tell(1, 0, held & 1 ^ 1);
            x.tell(2, 1, held >> 1 & 1 ^ 1);
            x.tell(1, 22, held >> 2 & 1 ^ 1);
            x.tell(1, 4, held >> 3 & 1);
            x.tell(1, 10, held >> 4 & 1);
            x.tell(2, 11, held >> 5 & 1);
            int due = held == 0 ? 0 : reasons[Integer.numberOfTrailingZeros(held)];
            Check.due("11: WHY of " + held, x.why(1, 0, 1, 2), due);
            Check.due("12: COST of " + held, x.cost(1, 0, 1, 2), held == 0 ? 4 : NONE);
            Check.due("11: to itself", x.why(1, 0, 1, 1), 1);
            Check.due("12: to itself", x.cost(1, 0, 1, 1), NONE);
        }
    }

    /** "(1: it has a child ..)", "(1: it would take one in)", "(1 the dearest, 0: none)", each of its own FAMILY. */
    private static void reasonsByOneStep() {
        HostYear x = Given.families(2);
        Check.due("11: nothing is told", x.why(0, 0, 0, 1), 2);
        x.tell(1, 0, 1);
        Check.due("11: the PUPIL of the HOME's is no PUPIL", x.why(0, 0, 0, 1), 2);
        x.tell(0, 0, 1);
        x.tell(0, 1, 1);
        Check.due("11: the HOME of the PUPIL's is no HOME", x.why(0, 0, 0, 1), 3);
        x.tell(1, 1, 1);
        x.tell(1, 20, 1);
        x.tell(0, 20, 1);
        Check.due("11: the WISH of the HOME's is no WISH", x.why(0, 0, 0, 1), 4);
        for (int wish = 1; wish <= 9; wish++) {
            x.tell(0, 21, wish);
            Check.due("11: WISH " + wish, x.why(0, 0, 0, 1), 0);
            Check.due("12: WISH " + wish, x.cost(0, 0, 0, 1), wish);
        }
        x.tell(0, 21, 0);
        Check.due("11: WISH 0", x.why(0, 0, 0, 1), 4);
        Check.due("12: WISH 0", x.cost(0, 0, 0, 1), NONE);
    }

    // "5 the PAPERS are there behind the TERM"
    private static void papersAndTerm() {
        HostYear x = Given.wishing(2, 0, 1, 1, 1, 0, 1);
        int[][] rows = {{0, 0, 0}, {1, 0, 5}, {1, 1, 0}, {2, 1, 5}, {LAST_DAY, LAST_DAY, 0}, {LAST_DAY, LAST_DAY - 1, 5},
            {LAST_DAY - 1, LAST_DAY, 0}, {0, LAST_DAY, 0}, {LAST_DAY, 0, 5}};
        for (int[] row : rows) {
            x.tell(0, 4, row[0]);
            x.term(row[1]);
            Check.due("11: PAPERS " + row[0] + ", TERM " + row[1], x.why(0, 0, 0, 1), row[2]);
            Check.due("12: PAPERS " + row[0] + ", TERM " + row[1], x.cost(0, 0, 0, 1), row[2] == 0 ? 1 : NONE);
            Check.due("11: of the HOME's FAMILY", x.why(0, 0, 1, 0), 0);
        }
    }

    // 11: "as known on a DAY (0 .. 100000). NONE: no such slot, DAY, FAMILIES."; 12: "NONE: .. as why()"
    private static void whyOfOthers() {
        HostYear x = Given.wishing(12, 11, 10, 5, 10, 11, 6);
        Check.due("11: DAY 0", x.why(0, 0, 11, 10), 0);
        Check.due("11: DAY 100000", x.why(1, LAST_DAY, 10, 11), 0);
        Check.due("12: DAY 100000", x.cost(1, LAST_DAY, 10, 11), 6);
        int[][] others = {{-1, 0, 11, 10}, {2, 0, 11, 10}, {LOW, 0, 11, 10}, {HIGH, 0, 11, 10}, {0, -1, 11, 10},
            {0, LAST_DAY + 1, 11, 10}, {0, LOW, 11, 10}, {0, HIGH, 11, 10}, {0, 0, 12, 10}, {0, 0, -1, 10},
            {0, 0, HIGH, 10}, {0, 0, LOW, 10}, {0, 0, 11, 12}, {0, 0, 11, -1}, {0, 0, 11, HIGH}, {0, 0, 11, LOW},
            {0, 0, 12, 12}, {0, 0, -1, -1}, {0, 0, LOW + 11, 10}, {0, 0, 11, LOW + 10}, {0, 0, 11 - (1 << 30), 10}};
        for (int[] a : others) {
            String row = a[0] + ", " + a[1] + ", " + a[2] + ", " + a[3];
            Check.due("11: why(" + row + ")", x.why(a[0], a[1], a[2], a[3]), NONE);
            Check.due("12: cost(" + row + ")", x.cost(a[0], a[1], a[2], a[3]), NONE);
        }
    }

    // 11: "as known on a DAY": one that comes and one that goes, asked there and back again
    private static void whyByDays() {
        HostYear x = Given.wishing(2, 1, 0, 6);
        Check.read(x, 0, "trait t;cost h.t;");
        x.clock(5);
        x.tell(0, 21, 3);
        x.tell(1, 10, 40);
        x.tell(1, 0, 0);
        int[][] due = {{4, NONE, 0, 6}, {0, 43, 2, NONE}};
        for (int i = 0; i < 6; i++) {
            int day = 4 + i % 2;
            int[] row = due[i % 2];
            Check.due("11: from 0 on DAY " + day, x.why(0, day, 0, 1), row[0]);
            Check.due("12: from 0 on DAY " + day, x.cost(0, day, 0, 1), row[1]);
            Check.due("11: from 1 on DAY " + day, x.why(0, day, 1, 0), row[2]);
            Check.due("12: from 1 on DAY " + day, x.cost(0, day, 1, 0), row[3]);
        }
        for (int[] told : new int[][] {{0, 0, 1, 2}, {1, 1, 1, 3}, {0, 21, 1, 4}, {0, 4, 0, 5}, {0, 17, 7, 10}}) {
            dueOnlyFromThatDayOn(told[0], told[1], told[2], told[3]);
        }
    }

    /** One FACT by which PUPIL 0 may go to HOME 1 is told on DAY 5, all others on DAY 4. */
    private static void dueOnlyFromThatDayOn(int f, int what, int v, int reason) {
        HostYear x = Given.families(2);
        Check.read(x, 0, "trait a;trait b;trait c;trait d;trait e;trait f;trait g;trait i;bar p.i!=7;");
        int[][] facts = {{0, 0, 1}, {1, 1, 1}, {0, 21, 1}, {0, 17, 7}};
        x.clock(4);
        x.tell(0, 4, what == 4 ? 1 : 0);
        for (int[] fact : facts) {
            if (fact[0] != f || fact[1] != what) {
                x.tell(fact[0], fact[1], fact[2]);
            }
        }
        x.clock(5);
        x.tell(f, what, v);
        Check.due("11: on DAY 5, by FACT " + what, x.why(0, 5, 0, 1), 0);
        Check.due("11: on DAY 4, by FACT " + what, x.why(0, 4, 0, 1), reason);
        Check.due("12: on DAY 5, by FACT " + what, x.cost(0, 5, 0, 1), 1);
        Check.due("12: on DAY 4, by FACT " + what, x.cost(0, 4, 0, 1), NONE);
        Check.due("11: on DAY 3, by FACT " + what, x.why(0, 3, 0, 1), 2);
    }

    // "of less than 0 it is 0, of more than 10000 that"
    private static void costAtItsEnds() {
        String[] texts = {"cost -3;", "cost -2;", "cost -1;", "cost 0;", "cost 9998;", "cost 9999;", "cost 9999;cost 1;",
            "cost 9999;cost 9999;", "cost 9999;cost 9;cost -8;", "cost -9;cost 9;", "cost 9999*9999;", "cost -9999*9999;"};
        int[] due = {0, 0, 0, 1, 9999, 10000, 10000, 10000, 10000, 1, 10000, 0};
        for (int i = 0; i < texts.length; i++) {
            HostYear x = Given.pairBy(texts[i]);
            Check.due("12: COST by " + texts[i], x.cost(0, 0, 0, 1), due[i]);
            Check.due("12: COST by " + texts[i] + " in slot 1", x.cost(1, 0, 0, 1), due[i]);
        }
    }

    // "cost RULES whose COND holds (or that have none)"
    private static void costIfItMay() {
        HostYear x = Given.pairBy("trait t;cost 10 if p.t==1;cost 100;cost 1000 if not p.t==1;bar p.t==2;");
        int[] due = {1101, 111, NONE, 1101};
        for (int t = 0; t <= 3; t++) {
            x.tell(0, 10, t);
            Check.due("12: COST of TRAIT " + t, x.cost(0, 0, 0, 1), due[t]);
            Check.due("11: WHY of TRAIT " + t, x.why(0, 0, 0, 1), t == 2 ? 13 : 0);
        }
    }

    /** "at most 512 calls": the last of them are answered like the first. */
    private static void calls512() {
        HostYear x = new HostYear();
        for (int i = 1; i <= 511; i++) {
            Check.due("19: close() as call " + i, x.close(), 0);
        }
        Check.due("22: YEARS closed, as call 512", x.count(4), 511);
        x = new HostYear();
        for (int i = 1; i <= 511; i++) {
            Check.due("7: clock() as call " + i, x.clock(100 * i), true);
        }
        Check.due("22: the CLOCK's DAY, as call 512", x.count(2), 51100);
    }
}
