/**
 * The boundaries of CLOSED and ROUND in part III of the Terms, of part IV, and of the promises 13
 * to 22: the last input on each side of each. The sentence that a method asks for stands above it.
 */
public final class YearBoundsTest {
    private static final int NONE = -1;
    private static final int LOW = Integer.MIN_VALUE;
    private static final int HIGH = Integer.MAX_VALUE;
    private static final int LAST_DAY = 100000;

    private static final int GIVER = 2;
    private static final int TRUST = 3;
    private static final int DEBT = 3;
    private static final int GIVEN = 4;
    private static final int MONEY = 5;

    public static void main(String[] args) {
        endsOfAChain();
        midstOfAChain();
        ringsNeedNothing();
        homeForOne();
        mostGo();
        leastCost();
        leastHome();
        noneBehindAll();
        pupilsInOrder();
        ringsInOrder();
        laterPupilsCountLess();
        slotsAndDaysOfARound();
        roundByDebtsAsTheyAre();
        roundOfNobody();
        roundAtHand();
        takeInItsOrder();
        takeByOneStep();
        takeByTrustAndGiver();
        takeByDebt();
        takeByTheClock();
        fallWithoutAPlace();
        fallForTheYear();
        fewestMove();
        fewestMoveAheadOfMany();
        movesOfThoseWithAPlace();
        movesFromJustAhead();
        anotherOneOrNone();
        fallThenMostCostOrder();
        oneWhoMovesOrANewOne();
        fallByTextAndClock();
        movedInOrder();
        movedUntilTheYearCloses();
        debtMoreAndLess();
        givenEachYear();
        pricesAtTheirEnds();
        priceAsKnownThen();
        nextYear();
        rowsOfARing();
        rowsOfAChain();
        ofOthers();
        countOfOthers();
        Check.end("YearBoundsTest");
    }

    private static void tellAll(HostYear x, int what, int v, int... families) {
        for (int f : families) {
            x.tell(f, what, v);
        }
    }

    /** A ROUND by slot 0 and the CLOCK's DAY, which is then taken. */
    private static void dueTake(String title, HostYear x, int going) {
        Check.due(title + ": round", x.round(0, x.count(2)), going);
        Check.due(title + ": take", x.take(), going);
        Check.due(title + ": go in the YEAR", x.count(5), going);
    }

    /** FAMILIES 0 .. 3, of which 0 and 1 have a DEBT or none; no WISH, no TRUST, no GIVER is left. */
    private static HostYear withDebts(boolean first, boolean second) {
        HostYear x = Given.wishing(4);
        tellAll(x, TRUST, 1, 0, 1);
        tellAll(x, GIVER, 1, 2, 3);
        x.tell(0, 22, first ? 1 : 0);
        x.tell(1, 23, second ? 1 : 0);
        dueTake("debts", x, (first ? 1 : 0) + (second ? 1 : 0));
        x.close();
        Check.due("DEBT of 0", x.of(0, DEBT), first ? 1 : 0);
        Check.due("DEBT of 1", x.of(1, DEBT), second ? 1 : 0);
        tellAll(x, TRUST, 0, 0, 1);
        tellAll(x, GIVER, 0, 2, 3);
        x.tell(0, 22, 0);
        x.tell(1, 23, 0);
        return x;
    }

    // "has one in its HOME, or TRUST and no DEBT"; "has its own gone, or is a GIVER or has a DEBT"
    private static void endsOfAChain() {
        for (int way = 0; way < 16; way++) {
            boolean hasTrust = (way & 1) == 1;
            boolean hasDebt = (way & 2) == 2;
            boolean isGiver = (way & 4) == 4;
            boolean owes = (way & 8) == 8;
            HostYear x = withDebts(hasDebt, owes);
            x.tell(0, 21, 1);
            x.tell(0, TRUST, hasTrust ? 1 : 0);
            x.tell(1, GIVER, isGiver ? 1 : 0);
            int due = hasTrust && !hasDebt && (isGiver || owes) ? 1 : 0;
            Check.due("13: chain of two, way " + way, x.round(0, 0), due);
            Check.due("14: goes, way " + way, x.goes(0), due == 1 ? 1 : NONE);
            // What is told of the other end does not count.
            x.tell(0, TRUST, 0);
            x.tell(1, GIVER, 0);
            x.tell(0, GIVER, 1);
            x.tell(1, TRUST, 1);
            Check.due("13: the wrong ends, way " + way, x.round(0, 0), 0);
        }
    }

    private static void midstOfAChain() {
        HostYear x = Given.wishing(5, 0, 1, 1, 1, 2, 1, 2, 3, 1);
        tellAll(x, GIVER, 1, 0, 1, 2);
        tellAll(x, TRUST, 1, 3, 4);
        Check.due("13: no end at all", x.round(0, 0), 0);
        x.tell(3, GIVER, 1);
        Check.due("13: no begin", x.round(0, 0), 0);
        x.tell(0, TRUST, 1);
        Check.due("13: the whole chain", x.round(0, 0), 3);
        tellAll(x, GIVER, 0, 0, 1, 2);
        Check.due("13: those between need nothing", x.round(0, 0), 3);
        x.tell(3, GIVER, 0);
        x.tell(2, GIVER, 1);
        Check.due("13: it ends ahead", x.round(0, 0), 2);
        Check.dueGoes("13: it ends ahead", x, 1, 2, NONE, NONE, NONE);
        x.tell(0, TRUST, 0);
        x.tell(1, TRUST, 1);
        Check.due("13: it begins behind", x.round(0, 0), 1);
        Check.dueGoes("13: it begins behind", x, NONE, 2, NONE, NONE, NONE);
    }

    private static void ringsNeedNothing() {
        for (int size = 2; size <= 12; size++) {
            HostYear x = Given.wishing(size);
            for (int f = 0; f < size; f++) {
                x.tell(f, 20 + (f + 1) % size, 9);
            }
            Check.due("13: a ring of " + size, x.round(0, 0), size);
            Check.due("15: a ring of " + size, x.costs(), 9 * size);
            x.tell(size - 1, 20, 0);
            Check.due("13: a ring that is open, of " + size, x.round(0, 0), 0);
        }
        HostYear x = Given.wishing(1, 0, 0, 1);
        Check.due("13: no ring of one", x.round(0, 0), 0);
        x = withDebts(true, true);
        x.tell(0, 21, 1);
        x.tell(1, 20, 1);
        Check.due("13: a ring of two with DEBTS", x.round(0, 0), 2);
    }

    // "no HOME has two"; of two who wish for one HOME the first goes
    private static void homeForOne() {
        for (int p = 0; p < 12; p++) {
            for (int q = p + 1; q < 12; q++) {
                int h = leastBeside(p, q);
                HostYear x = Given.wishing(12, p, h, 4, q, h, 4);
                tellAll(x, TRUST, 1, p, q);
                x.tell(h, GIVER, 1);
                Check.due("13: one of " + p + ", " + q, x.round(0, 0), 1);
                Check.due("14: the first of them", x.goes(p), h);
                Check.due("14: the other", x.goes(q), NONE);
                x.tell(q, 20 + h, 3);
                Check.due("13: one of " + p + ", " + q + " still", x.round(0, 0), 1);
                Check.due("14: the cheaper of them", x.goes(q), h);
                Check.due("14: the dearer", x.goes(p), NONE);
            }
        }
    }

    private static int leastBeside(int p, int q) {
        int h = 0;
        while (h == p || h == q) {
            h++;
        }
        return h;
    }

    // "those by which most go; of these those with the least COST together": one more at any COST
    private static void mostGo() {
        HostYear x = Given.wishing(12);
        Check.read(x, 0, "trait n;cost 9999 if p.n+1==h.n or p.n==11;cost -1;");
        for (int f = 0; f < 12; f++) {
            x.tell(f, 10, f);
            x.tell(f, 20 + (f + 1) % 12, 2);
        }
        for (int f = 0; f <= 10; f++) {
            x.tell(f, 20 + (f + 10) % 11, 1);
        }
        Check.due("12: a dear one", x.cost(0, 0, 11, 0), 10000);
        Check.due("12: a cheap one", x.cost(0, 0, 0, 10), 0);
        Check.due("13: twelve for 120000", x.round(0, 0), 12);
        Check.due("15: for 120000", x.costs(), 120000);
        Check.dueGoes("13: twelve", x, 1, 2, 3, 4, 5, 6, 7, 8, 9, 10, 11, 0);
        x.tell(11, 0, 0);
        Check.due("13: eleven for nothing", x.round(0, 0), 11);
        Check.due("15: for nothing", x.costs(), 0);
        Check.dueGoes("13: eleven", x, 10, 0, 1, 2, 3, 4, 5, 6, 7, 8, 9, NONE);
    }

    // "the least COST together": the sum, of which the last is one less, the same, one more
    private static void leastCost() {
        for (int wish = 7; wish <= 9; wish++) {
            HostYear x = Given.wishing(4, 0, 2, 5, 1, 3, 4, 0, 3, 1, 1, 2, wish);
            tellAll(x, TRUST, 1, 0, 1);
            tellAll(x, GIVER, 1, 2, 3);
            Check.due("13: two go", x.round(0, 0), 2);
            boolean isLess = wish == 7;
            Check.due("15: together", x.costs(), isLess ? 8 : 9);
            Check.dueGoes("13: by a wish of " + wish, x, isLess ? 3 : 2, isLess ? 2 : 3, NONE, NONE);
        }
    }

    // "in which PUPIL 0's HOME has the least number"
    private static void leastHome() {
        for (int p = 0; p < 12; p++) {
            HostYear x = Given.families(12);
            x.tell(p, 0, 1);
            x.tell(p, TRUST, 1);
            for (int h = 11; h >= 0; h--) {
                x.tell(h, 1, 1);
                x.tell(h, GIVER, 1);
                x.tell(p, 20 + h, 6);
                int due = h == p ? h + 1 : h;
                boolean mayGo = due <= 11;
                Check.due("13: from " + p + " on " + h, x.round(0, 0), mayGo ? 1 : 0);
                Check.due("14: the least HOME of " + p, x.goes(p), mayGo ? due : NONE);
            }
        }
    }

    // "(none behind all)": to HOME 11 is ahead of nowhere
    private static void noneBehindAll() {
        for (int p = 0; p < 10; p++) {
            HostYear x = Given.wishing(12, p, 11, 1, 11, p, 1, p + 1, 11, 1, 11, p + 1, 1);
            Check.due("13: one ring of two", x.round(0, 0), 2);
            Check.due("14: goes(" + p + ")", x.goes(p), 11);
            Check.due("14: goes(" + (p + 1) + ")", x.goes(p + 1), NONE);
            Check.due("14: goes(11)", x.goes(11), p);
        }
    }

    // "PUPIL 0's HOME .., then PUPIL 1's, and so on"
    private static void pupilsInOrder() {
        for (int p = 0; p < 10; p++) {
            int q = p + 1;
            int low = p == 0 ? 2 : 0;
            int high = p == 10 ? 9 : 11;
            HostYear x = Given.wishing(12, p, low, 3, p, high, 3, q, low, 3, q, high, 3);
            tellAll(x, TRUST, 1, p, q);
            tellAll(x, GIVER, 1, low, high);
            Check.due("13: both go", x.round(0, 0), 2);
            Check.due("14: the first to the least", x.goes(p), low);
            Check.due("14: the second to the other", x.goes(q), high);
        }
        // PUPIL 0 has the same HOME in both; PUPIL 1's decides, though that of 2 is greater then.
        HostYear x = Given.wishing(6, 0, 3, 1, 1, 4, 1, 1, 5, 1, 2, 4, 1, 2, 5, 1);
        tellAll(x, TRUST, 1, 0, 1, 2);
        tellAll(x, GIVER, 1, 3, 4, 5);
        Check.due("13: all three", x.round(0, 0), 3);
        Check.dueGoes("13: in order", x, 3, 4, 5, NONE, NONE, NONE);
    }

    /** PUPIL 0 goes in one of two rings of three that are all alike but for their numbers. */
    private static void ringsInOrder() {
        for (int way = 0; way < 256; way++) {
            int a = 1 + (way & 3);
            int b = 1 + (way >> 2 & 3);
            int c = 1 + (way >> 4 & 3);
            int d = 1 + (way >> 6);
            if (a < b && (1 << a | 1 << b | 1 << c | 1 << d) == 30) {
                int[] homes = {a, NONE, NONE, NONE, NONE};
                homes[a] = c;
                homes[c] = 0;
                HostYear x = Given.wishing(5, 0, a, 1, a, c, 1, c, 0, 1, 0, b, 1, b, d, 1, d, 0, 1);
                Check.due("13: a ring of three", x.round(0, 0), 3);
                Check.dueGoes("13: " + a + " is less than " + b, x, homes);
            }
        }
    }

    /** PUPIL 0's HOME is one less: that PUPILS 1 and 2 go nowhere by that counts for nothing. */
    private static void laterPupilsCountLess() {
        for (int h = 5; h <= 10; h++) {
            HostYear x = Given.wishing(12, 0, h, 1, h, 3, 1, 3, 4, 1, 4, 0, 1, 0, h + 1, 1, h + 1, 2, 1, 2, 1, 1, 1, 0, 1);
            Check.due("13: a ring of four", x.round(0, 0), 4);
            Check.dueGoes("13: by HOME " + h, x, h, NONE, NONE, 4, 0);
        }
    }

    // 13: "by the text of a slot, as known on a DAY (0 .. 100000 ..). NONE: no such slot, DAY."
    private static void slotsAndDaysOfARound() {
        HostYear x = Given.wishing(2, 0, 1, 4, 1, 0, 4);
        x.clock(LAST_DAY);
        x.tell(0, 21, 5);
        Check.read(x, 1, "cost 100;");
        int[][] rounds = {{0, 0, 8}, {0, LAST_DAY - 1, 8}, {0, LAST_DAY, 9}, {1, 0, 208}, {1, LAST_DAY, 209}};
        int[][] others = {{-1, 0}, {2, 0}, {LOW, 0}, {HIGH, 0}, {0, -1}, {0, LOW}, {1, LAST_DAY + 1}, {1, HIGH}, {2, -1}};
        for (int[] other : others) {
            Check.due("13: round(" + other[0] + ", " + other[1] + ")", x.round(other[0], other[1]), NONE);
            Check.due("15: none is at hand", x.costs(), NONE);
            Check.due("16: nor to be taken", x.take(), NONE);
        }
        for (int[] round : rounds) {
            Check.due("13: round(" + round[0] + ", " + round[1] + ")", x.round(round[0], round[1]), 2);
            Check.due("15: of round(" + round[0] + ", " + round[1] + ")", x.costs(), round[2]);
        }
        for (int[] other : others) {
            Check.due("13: round(" + other[0] + ", " + other[1] + ")", x.round(other[0], other[1]), NONE);
            Check.due("15: the last one stays", x.costs(), 209);
            Check.due("14: with its HOMES", x.goes(1), 0);
        }
    }

    // 13: "(.. DEBTS as they are)"
    private static void roundByDebtsAsTheyAre() {
        HostYear x = Given.wishing(2, 0, 1, 1);
        x.tell(0, TRUST, 1);
        x.tell(1, GIVER, 1);
        x.clock(9);
        Check.due("13: on a DAY ahead", x.round(0, 3), 1);
        x.take();
        x.close();
        Check.due("19: a DEBT", x.of(0, DEBT), 1);
        Check.due("13: on the DAY ahead, now", x.round(0, 3), 0);
        // Nor is one who fell out in this YEAR left out of a ROUND.
        x = Given.wishing(2, 0, 1, 1, 1, 0, 1);
        dueTake("13", x, 2);
        x.fall(0);
        Check.due("13: also those who fell out", x.round(0, 0), 2);
    }

    private static void roundOfNobody() {
        HostYear x = new HostYear();
        Check.due("13: without FAMILIES", x.round(0, 0), 0);
        Check.due("15: without FAMILIES", x.costs(), 0);
        Check.due("14: without FAMILIES", x.goes(0), NONE);
        Check.due("16: nobody", x.take(), 0);
        Check.due("16: nobody, already", x.take(), -2);
        x = Given.families(12);
        Check.due("13: without FACTS", x.round(1, LAST_DAY), 0);
        Check.due("15: without FACTS", x.costs(), 0);
        Check.due("14: without FACTS", x.goes(11), NONE);
    }

    // 14: "NONE: none, or no such FAMILY, or no ROUND is at hand"; 15: "NONE: no ROUND is at hand"
    private static void roundAtHand() {
        HostYear x = Given.wishing(12, 10, 11, 1, 11, 10, 2);
        Check.due("14: none is at hand", x.goes(11), NONE);
        Check.due("15: none is at hand", x.costs(), NONE);
        x.round(0, 0);
        for (int p : new int[] {LOW, -2, -1, 12, 13, HIGH, 0, 9}) {
            Check.due("14: goes(" + p + ")", x.goes(p), NONE);
        }
        Check.due("14: goes(10)", x.goes(10), 11);
        Check.due("14: goes(11)", x.goes(11), 10);
        Check.due("15: costs()", x.costs(), 3);
        x.tell(10, 31, 9);
        Check.due("15: as it was made", x.costs(), 3);
        x.round(0, 0);
        Check.due("15: made anew", x.costs(), 11);
        x.tell(10, 0, 0);
        x.round(0, 0);
        Check.due("14: the latest is at hand", x.goes(10), NONE);
        Check.due("15: the latest is at hand", x.costs(), 0);
        x = Given.wishing(2, 0, 1, 1, 1, 0, 1);
        x.round(0, 0);
        Check.due("14: no FAMILY 2", x.goes(2), NONE);
        x.family();
        Check.due("14: FAMILY 2 came later", x.goes(2), NONE);
    }

    // 16: "NONE: no ROUND is at hand; -2: the YEAR has had PLACES already; -3: it is not CLOSED"
    private static void takeInItsOrder() {
        HostYear x = Given.wishing(2, 0, 1, 1, 1, 0, 1);
        Check.due("16: none is at hand", x.take(), NONE);
        x.close();
        Check.due("16: nor in the next YEAR", x.take(), NONE);
        dueTake("16", x, 2);
        Check.due("16: already", x.take(), -2);
        x.tell(0, 0, 0);
        Check.due("16: already, and not CLOSED", x.take(), -2);
        x.round(0, 0);
        Check.due("16: already, another one", x.take(), -2);
        Check.due("16: the YEAR's stay", x.count(5), 2);
        x.fall(0);
        Check.due("16: already, though none is left", x.take(), -2);
        x.tell(0, 0, 1);
        x.close();
        Check.due("16: nobody, in the next YEAR", x.take(), 0);
        Check.due("16: nobody is already too", x.take(), -2);
        x.close();
        dueTake("16: in a third", x, 2);
    }

    /** A ring of two at hand, then one step that opens it, then the step back. */
    private static void takeByOneStep() {
        int[][] steps = {{0, 0, 0, 1}, {1, 0, 0, 1}, {0, 1, 0, 1}, {1, 1, 0, 1}, {0, 21, 0, 9}, {1, 20, 0, 9},
            {0, 4, 8, 7}, {1, 4, 100000, 0}};
        for (int[] step : steps) {
            HostYear x = Given.wishing(2, 0, 1, 1, 1, 0, 1);
            x.term(7);
            x.round(1, 0);
            x.tell(step[0], step[1], step[2]);
            Check.due("16: FACT " + step[1] + " opens it", x.take(), -3);
            Check.due("16: nobody goes", x.count(5), 0);
            Check.due("16: it stays at hand", x.goes(0), 1);
            x.tell(step[0], step[1], step[3]);
            Check.due("16: FACT " + step[1] + " shuts it", x.take(), 2);
        }
        HostYear x = Given.wishing(2, 0, 1, 1, 1, 0, 1);
        x.term(7);
        x.tell(0, 4, 7);
        x.round(0, 0);
        x.term(6);
        Check.due("16: the TERM is ahead of the PAPERS", x.take(), -3);
        x.term(7);
        Check.read(x, 1, "bar 1==1;");
        Check.due("16: the text of slot 1 does not count", x.take(), 2);
        x.close();
        Check.read(x, 0, "bar 1==1;");
        Check.due("16: that of slot 0 does", x.take(), -3);
        Check.read(x, 0, "cost 9999;");
        Check.due("16: the COST does not", x.take(), 2);
        Check.due("15: nor is it told anew", x.costs(), 2);
    }

    private static void takeByTrustAndGiver() {
        HostYear x = Given.wishing(3, 0, 1, 1, 1, 2, 1);
        x.tell(0, TRUST, 1);
        x.tell(2, GIVER, 1);
        Check.due("13: a chain", x.round(0, 0), 2);
        x.tell(0, TRUST, 0);
        Check.due("16: no TRUST now", x.take(), -3);
        x.tell(0, TRUST, 1);
        x.tell(2, GIVER, 0);
        Check.due("16: no GIVER now", x.take(), -3);
        tellAll(x, GIVER, 1, 0, 1);
        tellAll(x, TRUST, 1, 1, 2);
        Check.due("16: the others do not count", x.take(), -3);
        x.tell(2, GIVER, 1);
        // More could go by now, and for less: only CLOSED is asked.
        x.tell(2, 20, 1);
        Check.due("16: the chain", x.take(), 2);
        Check.dueYear("16", x, 1, 2, NONE);
    }

    private static void takeByDebt() {
        // PUPIL 0 goes on TRUST; by the DEBT that this leaves, the same ROUND is no more CLOSED.
        HostYear x = Given.wishing(2, 0, 1, 1);
        x.tell(0, TRUST, 1);
        x.tell(1, GIVER, 1);
        dueTake("16", x, 1);
        x.close();
        Check.due("16: a DEBT now", x.take(), -3);
        // FAMILY 0 takes one in by its DEBT alone; without it, the same ROUND is no more CLOSED.
        x = withDebts(true, false);
        x.tell(1, 20, 1);
        x.tell(1, TRUST, 1);
        dueTake("16: by the DEBT", x, 1);
        x.close();
        Check.due("19: no DEBT", x.of(0, DEBT), 0);
        Check.due("16: no DEBT now", x.take(), -3);
        x.tell(0, GIVER, 1);
        Check.due("16: nor may 1 go, that has one", x.take(), -3);
    }

    // 16: "as known on the CLOCK's DAY"
    private static void takeByTheClock() {
        HostYear x = Given.wishing(2, 0, 1, 1, 1, 0, 1);
        x.clock(5);
        x.tell(0, 0, 0);
        Check.due("13: on the DAY ahead", x.round(0, 4), 2);
        Check.due("16: not on the CLOCK's", x.take(), -3);
        x.clock(6);
        Check.due("16: nor on the next", x.take(), -3);
        x.tell(0, 0, 1);
        Check.due("16: told anew", x.take(), 2);
        x.close();
        Check.due("13: on that DAY", x.round(0, 5), 0);
        Check.due("16: nobody is CLOSED always", x.take(), 0);
    }

    // 17: "NONE: it has no place in the YEAR."
    private static void fallWithoutAPlace() {
        HostYear x = Given.wishing(12, 0, 11, 1, 11, 0, 1);
        Check.due("17: no PLACES", x.fall(0), NONE);
        x.round(0, 0);
        Check.due("17: only at hand", x.fall(0), NONE);
        x.take();
        for (int p : new int[] {LOW, -12, -1, 12, 13, HIGH, 1, 10}) {
            Check.due("17: fall(" + p + ")", x.fall(p), NONE);
            Check.due("17: two go still", x.count(5), 2);
        }
        Check.due("17: fall(11)", x.fall(11), 1);
        Check.due("17: fall(11) again", x.fall(11), NONE);
        Check.due("17: one who lost its place", x.fall(0), NONE);
        Check.due("21: fell out", x.of(11, 2), 1);
        Check.due("21: only moved", x.of(0, 2), 0);
        Check.due("21: neither", x.of(1, 2), 0);
        x.close();
        Check.due("17: no PLACES in the next YEAR", x.fall(11), NONE);
    }

    // "it goes nowhere this YEAR"; "in which none who fell out goes"
    private static void fallForTheYear() {
        HostYear x = Given.wishing(4, 0, 1, 1, 1, 0, 1, 2, 3, 1, 3, 2, 1, 0, 2, 1, 2, 0, 1);
        dueTake("17", x, 4);
        Check.due("17: fall(0)", x.fall(0), 1);
        Check.dueYear("17: 1 has none now", x, NONE, NONE, 3, 2);
        // 2 could go in a ring with 0, but 0 fell out.
        Check.due("17: fall(3)", x.fall(3), 1);
        Check.dueYear("17: nor has 2", x, NONE, NONE, NONE, NONE);
        Check.due("17: nobody is left", x.count(5), 0);
        // The HOME of one who fell out may take one in, if it is a GIVER.
        x = Given.wishing(3, 0, 1, 1, 1, 2, 1, 2, 0, 1);
        x.tell(0, GIVER, 1);
        x.tell(1, TRUST, 1);
        dueTake("17: a ring", x, 3);
        Check.due("17: none moves", x.fall(0), 0);
        Check.dueYear("17: the chain that is left", x, NONE, 2, 0);
        Check.due("21: one in its HOME", x.of(0, 1), 2);
        x.close();
        Check.due("19: GIVEN", x.of(0, GIVEN), 1);
        Check.due("19: DEBT", x.of(1, DEBT), 1);
    }

    // "those by which the fewest of the others who had a place have another one, or none, now"
    private static void fewestMove() {
        // As 0 falls out, 1 moves; 2 and 3 could go on with it in a ring of three, but would move.
        HostYear x = Given.wishing(4, 0, 1, 1, 1, 0, 1, 2, 3, 1, 3, 2, 1, 1, 2, 1, 3, 1, 1);
        dueTake("17", x, 4);
        Check.due("17: only 1 moves", x.fall(0), 1);
        Check.dueYear("17: though fewer go", x, NONE, NONE, 3, 2);
        // The same with cheaper PLACES for all: who may stay stays.
        x = Given.wishing(6, 0, 1, 9, 1, 0, 9, 2, 3, 9, 3, 2, 9, 4, 5, 9, 5, 4, 9);
        Check.read(x, 0, "cost 9990;");
        dueTake("17: dear", x, 6);
        Check.read(x, 0, "");
        int[][] cheap = {{2, 4}, {4, 2}, {3, 5}, {5, 3}};
        for (int[] wish : cheap) {
            x.tell(wish[0], 20 + wish[1], 1);
        }
        Check.due("17: the others stay", x.fall(0), 1);
        Check.dueYear("17: at any COST", x, NONE, NONE, 3, 2, 5, 4);
    }

    /** Nobody moves, though nine more could go if only one did. */
    private static void fewestMoveAheadOfMany() {
        HostYear x = Given.wishing(12, 0, 1, 1, 1, 2, 1, 2, 0, 1);
        x.tell(0, GIVER, 1);
        x.tell(1, TRUST, 1);
        dueTake("17", x, 3);
        x.tell(1, 23, 1);
        for (int f = 3; f <= 10; f++) {
            x.tell(f, 21 + f, 1);
        }
        x.tell(11, 22, 1);
        Check.due("17: none moves", x.fall(0), 0);
        Check.dueYear("17: two go", x, NONE, 2, 0, NONE, NONE, NONE, NONE, NONE, NONE, NONE, NONE, NONE);
        Check.due("13: but a ROUND would take all", x.round(0, 0), 12);
        // If it must move anyway, the many go.
        x.tell(1, 22, 0);
        x.tell(2, GIVER, 1);
        Check.due("17: 1 moves, 2 falls out", x.fall(2), 1);
        Check.dueYear("17: ten go", x, NONE, 3, NONE, 4, 5, 6, 7, 8, 9, 10, 11, 2);
    }

    /** Those who had no place do not MOVE, whatever they get. */
    private static void movesOfThoseWithAPlace() {
        HostYear x = Given.wishing(4, 0, 1, 1, 1, 0, 1, 2, 1, 5, 3, 1, 4);
        tellAll(x, TRUST, 1, 1, 2, 3);
        x.tell(0, GIVER, 1);
        dueTake("17", x, 2);
        Check.due("17: none moves by 0", x.fall(0), 0);
        Check.dueYear("17: 3 has a place", x, NONE, 0, NONE, 1);
        Check.due("18: it did not move", x.moved(0), NONE);
        Check.due("17: none moves by 3", x.fall(3), 0);
        Check.dueYear("17: 2 has a place", x, NONE, 0, 1, NONE);
        Check.due("17: nor by 1: the HOME is not given", x.fall(1), 1);
        Check.due("18: but 2, who had a place now", x.moved(0), 2);
    }

    /** A place that was lost by an earlier fall() is none that one "had": the COST decides, not the way back. */
    private static void movesFromJustAhead() {
        for (int wish = 4; wish <= 6; wish++) {
            HostYear x = Given.wishing(5, 0, 1, 1, 1, 0, 1, 3, 4, 1, 4, 3, 1);
            dueTake("17", x, 4);
            Check.due("17: 1 has none now", x.fall(0), 1);
            tellAll(x, GIVER, 1, 0, 2);
            x.tell(1, TRUST, 1);
            x.tell(1, 20, 5);
            x.tell(1, 22, wish);
            Check.due("17: only 4 moves", x.fall(3), 1);
            Check.due("18: that is 4", x.moved(0), 4);
            Check.dueYear("17: by a wish of " + wish, x, NONE, wish < 5 ? 2 : 0, NONE, NONE, NONE);
        }
    }

    /** "another one, or none": both are one MOVE, and of these most go. */
    private static void anotherOneOrNone() {
        HostYear x = Given.wishing(3, 0, 1, 1, 1, 0, 1);
        dueTake("17", x, 2);
        x.tell(1, 22, 9);
        x.tell(2, 21, 9);
        Check.due("17: one moves", x.fall(0), 1);
        Check.dueYear("17: to another one", x, NONE, 2, 1);
        Check.due("18: 1 moved", x.moved(0), 1);
        Check.due("18: 2 had none", x.moved(1), NONE);
        x.tell(1, 22, 0);
        Check.due("17: one moves to none", x.fall(2), 1);
        Check.due("18: 1 moved again", x.moved(0), 1);
    }

    // "of these those by which most go, then the least COST, then by HOMES in order"
    private static void fallThenMostCostOrder() {
        int[][] rows = {{1, 9, 9, 4, 3}, {5, 4, 0, 4, NONE}, {4, 5, 0, 3, NONE}, {5, 5, 0, 3, NONE}, {1, 0, 9, 3, NONE}};
        for (int[] row : rows) {
            HostYear x = Given.families(5);
            tellAll(x, 1, 1, 3, 4);
            tellAll(x, GIVER, 1, 3, 4);
            tellAll(x, TRUST, 1, 0, 1, 2);
            x.tell(0, 0, 1);
            x.tell(0, 23, 1);
            dueTake("17", x, 1);
            tellAll(x, 0, 1, 1, 2);
            x.tell(1, 23, row[0]);
            x.tell(1, 24, row[1]);
            x.tell(2, 23, row[2]);
            Check.due("17: none had a place", x.fall(0), 0);
            Check.dueYear("17: by wishes of " + row[0] + ", " + row[1] + ", " + row[2], x, NONE, row[3], row[4]);
        }
    }

    /** One MOVES in any case; whether it has the HOME or one who had none is for the COST, then the order. */
    private static void oneWhoMovesOrANewOne() {
        for (int wish = 4; wish <= 6; wish++) {
            HostYear x = Given.wishing(4, 0, 1, 1, 1, 0, 1);
            dueTake("17", x, 2);
            tellAll(x, TRUST, 1, 1, 2);
            x.tell(3, GIVER, 1);
            x.tell(1, 23, wish);
            x.tell(2, 23, 5);
            Check.due("17: one moves", x.fall(0), 1);
            Check.due("18: that is 1", x.moved(0), 1);
            Check.dueYear("17: by a wish of " + wish, x, NONE, wish <= 5 ? 3 : NONE, wish <= 5 ? NONE : 3, NONE);
        }
    }

    // "(by the text of slot 0, what is known on the CLOCK's DAY)"
    private static void fallByTextAndClock() {
        HostYear x = Given.wishing(4, 0, 1, 1, 1, 0, 1, 2, 3, 1, 3, 2, 1);
        dueTake("17", x, 4);
        Check.read(x, 1, "bar 1==1;");
        Check.due("17: not by slot 1", x.fall(0), 1);
        Check.dueYear("17: 2 and 3 stay", x, NONE, NONE, 3, 2);
        x = Given.wishing(4, 0, 1, 1, 1, 0, 1, 2, 3, 1, 3, 2, 1);
        dueTake("17", x, 4);
        Check.read(x, 0, "bar 1==1;");
        Check.due("21: the PLACES stay till then", x.count(5), 4);
        Check.due("17: by slot 0", x.fall(0), 3);
        x = Given.wishing(4, 0, 1, 1, 1, 0, 1, 2, 3, 1, 3, 2, 1);
        dueTake("17", x, 4);
        x.clock(3);
        x.tell(2, 1, 0);
        Check.due("17: by what is known now", x.fall(0), 3);
        Check.due("17: nobody goes", x.count(5), 0);
    }

    // 18: "The i-th FAMILY, in order, whose PUPIL MOVED by the latest fall()"; "NONE: not so many"
    private static void movedInOrder() {
        HostYear x = Given.wishing(12);
        for (int f = 0; f < 12; f++) {
            x.tell(f, 20 + (f + 7) % 12, 1);
        }
        dueTake("18", x, 12);
        for (int i : new int[] {LOW, -1, 0, 1, 11, HIGH}) {
            Check.due("18: ahead of any", x.moved(i), NONE);
        }
        Check.due("17: all others", x.fall(5), 11);
        for (int i = 0; i < 11; i++) {
            Check.due("18: moved(" + i + ")", x.moved(i), i < 5 ? i : i + 1);
        }
        for (int i : new int[] {LOW, -1, 11, 12, HIGH}) {
            Check.due("18: moved(" + i + ")", x.moved(i), NONE);
        }
    }

    // 18: "(that was not NONE; none ahead of any, or behind close())"
    private static void movedUntilTheYearCloses() {
        HostYear x = Given.wishing(5, 0, 1, 1, 1, 0, 1, 2, 3, 1, 3, 4, 1, 4, 2, 1);
        dueTake("18", x, 5);
        Check.due("17: two move", x.fall(3), 2);
        Check.due("18: the first", x.moved(0), 2);
        Check.due("18: the second", x.moved(1), 4);
        Check.due("18: no third", x.moved(2), NONE);
        Check.due("17: NONE", x.fall(3), NONE);
        Check.due("17: NONE", x.fall(5), NONE);
        Check.due("16: -2", x.take(), -2);
        Check.due("18: the second still", x.moved(1), 4);
        Check.due("17: one moves", x.fall(1), 1);
        Check.due("18: by the latest", x.moved(0), 0);
        Check.due("18: by the latest alone", x.moved(1), NONE);
        x.close();
        Check.due("18: behind close()", x.moved(0), NONE);
        dueTake("18: the next YEAR", x, 5);
        Check.due("18: behind take()", x.moved(0), NONE);
        x.tell(2, GIVER, 1);
        x.tell(4, TRUST, 1);
        x.tell(3, GIVER, 1);
        x.tell(2, TRUST, 1);
        x.tell(4, GIVER, 1);
        Check.due("17: none moves", x.fall(3), 0);
        Check.due("18: none", x.moved(0), NONE);
    }

    // "has one DEBT more"; "has one DEBT less, or, without one, has GIVEN one more"
    private static void debtMoreAndLess() {
        HostYear x = Given.wishing(3, 0, 1, 1, 1, 2, 1);
        x.tell(0, TRUST, 1);
        x.tell(2, GIVER, 1);
        dueTake("19", x, 2);
        Check.due("19: not ahead of close()", x.of(0, DEBT), 0);
        Check.due("19: not ahead of close()", x.of(2, GIVEN), 0);
        Check.due("19: how many went", x.close(), 2);
        int[][] due = {{1, 0}, {0, 0}, {0, 1}};
        dueDebts("19: a chain", x, due);
        x.close();
        dueDebts("19: a YEAR of nobody", x, due);
        // A ring changes none of it, also for one with a DEBT.
        x.tell(2, 20, 1);
        dueTake("19: a ring", x, 3);
        Check.due("19: how many went", x.close(), 3);
        dueDebts("19: a ring", x, due);
        // 0 takes one in: first its DEBT goes, then it has GIVEN.
        tellAll(x, TRUST, 1, 1, 2);
        tellAll(x, GIVER, 0, 1, 2);
        x.tell(0, 21, 0);
        x.tell(1, 22, 0);
        dueTake("19: a DEBT less", x, 1);
        x.close();
        dueDebts("19: a DEBT less", x, new int[][] {{0, 0}, {0, 0}, {1, 1}});
        Check.due("19: no GIVER, no DEBT", x.round(0, 0), 0);
        x.tell(0, GIVER, 1);
        x.tell(2, 20, 0);
        x.tell(1, 20, 1);
        dueTake("19: GIVEN", x, 1);
        x.close();
        dueDebts("19: GIVEN", x, new int[][] {{0, 1}, {1, 0}, {1, 1}});
    }

    private static void dueDebts(String title, HostYear x, int[][] due) {
        for (int f = 0; f < due.length; f++) {
            Check.due(title + ": DEBT of " + f, x.of(f, DEBT), due[f][0]);
            Check.due(title + ": GIVEN of " + f, x.of(f, GIVEN), due[f][1]);
        }
    }

    /** Each YEAR another one of eleven goes on TRUST to the one HOME that is given. */
    private static void givenEachYear() {
        HostYear x = Given.wishing(12);
        x.tell(0, GIVER, 1);
        for (int f = 1; f < 12; f++) {
            x.tell(f, TRUST, 1);
            x.tell(f, 20, f % 9 + 1);
        }
        int[] cheapest = {9, 1, 10, 2, 11, 3, 4, 5, 6, 7, 8};
        for (int i = 0; i < cheapest.length; i++) {
            dueTake("19: YEAR " + i, x, 1);
            Check.due("21: whose turn it is", x.of(0, 1), cheapest[i]);
            x.close();
            Check.due("19: GIVEN", x.of(0, GIVEN), i + 1);
            Check.due("19: DEBT", x.of(cheapest[i], DEBT), 1);
            Check.due("22: YEARS", x.count(4), i + 1);
        }
        dueTake("19: all have a DEBT", x, 0);
    }

    // "Each whose PUPIL went pays the PRICE of the HOME"; "MONEY .. 0 at first"
    private static void pricesAtTheirEnds() {
        for (int price : new int[] {0, 1, 999, 1000}) {
            HostYear x = Given.wishing(3, 0, 1, 1, 1, 2, 1);
            x.tell(0, TRUST, 1);
            x.tell(2, GIVER, 1);
            x.tell(0, 5, 500);
            x.tell(2, 5, price);
            dueTake("19", x, 2);
            for (int year = 1; year <= 2; year++) {
                Check.due("21: MONEY of 2 so far", x.of(2, MONEY), (year - 1) * price);
                x.close();
                Check.due("19: 0 pays nothing for a HOME without a PRICE", x.of(0, MONEY), 0);
                Check.due("19: 1 pays", x.of(1, MONEY), -year * price);
                Check.due("19: 2 is paid", x.of(2, MONEY), year * price);
                tellAll(x, TRUST, 1, 1);
                x.tell(0, 21, 0);
                x.round(0, 0);
                x.take();
            }
        }
    }

    // "the PRICE of the HOME (as known then)"
    private static void priceAsKnownThen() {
        HostYear x = Given.wishing(2, 0, 1, 1, 1, 0, 1);
        x.tell(0, 5, 10);
        x.tell(1, 5, 200);
        dueTake("19", x, 2);
        x.clock(1);
        x.tell(1, 5, 300);
        x.tell(1, 5, 400);
        x.clock(LAST_DAY);
        x.tell(0, 5, 11);
        Check.due("19: two went", x.close(), 2);
        Check.due("19: 0 paid the latest", x.of(0, MONEY), -389);
        Check.due("19: 1 was paid it", x.of(1, MONEY), 389);
        x.tell(1, 5, 1000);
        Check.due("19: what is told later changes nothing", x.of(1, MONEY), 389);
        dueTake("19: once more", x, 2);
        x.fall(1);
        Check.due("19: nobody went", x.close(), 0);
        Check.due("19: nobody paid", x.of(1, MONEY), 389);
    }

    // "Then the next YEAR has no PLACES, and none fell out."
    private static void nextYear() {
        HostYear x = Given.wishing(4, 0, 1, 1, 1, 0, 1, 2, 3, 1, 3, 2, 1);
        Check.due("22: none closed", x.count(4), 0);
        dueTake("19", x, 4);
        x.fall(0);
        Check.due("22: two go", x.count(5), 2);
        Check.due("19: two went", x.close(), 2);
        Check.due("22: one closed", x.count(4), 1);
        Check.due("22: none goes", x.count(5), 0);
        for (int f = 0; f < 4; f++) {
            Check.due("21: no place", x.of(f, 0), NONE);
            Check.due("21: none in its HOME", x.of(f, 1), NONE);
            Check.due("21: none fell out", x.of(f, 2), 0);
            Check.due("20: the row ends", x.link(f, 1), NONE);
        }
        Check.due("14: the ROUND stays at hand", x.goes(0), 1);
        Check.due("16: and may be taken again", x.take(), 4);
        Check.due("17: who fell out last YEAR goes", x.of(0, 0), 1);
        Check.due("19: all went", x.close(), 4);
        Check.due("22: two closed", x.count(4), 2);
    }

    // 20: "NONE: .. as it would come to p again"
    private static void rowsOfARing() {
        for (int size = 2; size <= 12; size++) {
            HostYear x = Given.wishing(size);
            for (int f = 0; f < size; f++) {
                x.tell(f, 20 + (f + 1) % size, 1);
            }
            dueTake("20", x, size);
            for (int p = 0; p < size; p += size - 1) {
                for (int i = 0; i < size; i++) {
                    Check.due("20: link(" + p + ", " + i + ") of " + size, x.link(p, i), (p + i) % size);
                }
                for (int i : new int[] {size, size + 1, 2 * size, HIGH, -1, LOW}) {
                    Check.due("20: link(" + p + ", " + i + ") of " + size, x.link(p, i), NONE);
                }
            }
            Check.due("20: no such FAMILY", x.link(size, 0), NONE);
            Check.due("20: no such FAMILY", x.link(-1, 0), NONE);
        }
    }

    // 20: "(0: p)"; "NONE: no such FAMILY, or the row has ended: behind one whose PUPIL goes nowhere"
    private static void rowsOfAChain() {
        HostYear x = Given.wishing(12);
        for (int f = 0; f < 11; f++) {
            x.tell(11 - f, 20 + 10 - f, 1);
        }
        x.tell(11, TRUST, 1);
        x.tell(0, GIVER, 1);
        Check.due("20: ahead of the PLACES", x.link(11, 1), NONE);
        dueTake("20", x, 11);
        for (int p = 0; p < 12; p++) {
            for (int i = 0; i <= p; i++) {
                Check.due("20: link(" + p + ", " + i + ")", x.link(p, i), p - i);
            }
            for (int i : new int[] {p + 1, p + 2, HIGH, -1, LOW}) {
                Check.due("20: link(" + p + ", " + i + ")", x.link(p, i), NONE);
            }
        }
        for (int p : new int[] {LOW, -1, 12, HIGH}) {
            Check.due("20: link(" + p + ", 0)", x.link(p, 0), NONE);
        }
    }

    // 21: "NONE for others"
    private static void ofOthers() {
        HostYear x = Given.wishing(12, 10, 11, 1);
        x.tell(10, TRUST, 1);
        x.tell(11, GIVER, 1);
        dueTake("21", x, 1);
        int[][] due = {{11, NONE, 0, 0, 0, 0}, {NONE, 10, 0, 0, 0, 0}};
        for (int f = 10; f <= 11; f++) {
            for (int what = 0; what <= 5; what++) {
                Check.due("21: of(" + f + ", " + what + ")", x.of(f, what), due[f - 10][what]);
            }
            for (int what : new int[] {LOW, -1, 6, 7, HIGH}) {
                Check.due("21: of(" + f + ", " + what + ")", x.of(f, what), NONE);
            }
        }
        for (int f : new int[] {LOW, -1, 12, HIGH}) {
            for (int what = -1; what <= 6; what++) {
                Check.due("21: of(" + f + ", " + what + ")", x.of(f, what), NONE);
            }
        }
        Check.due("17: fall(10)", x.fall(10), 0);
        Check.due("21: it fell out", x.of(10, 2), 1);
        Check.due("21: none in the HOME", x.of(11, 1), NONE);
    }

    // 22: "NONE for others"
    private static void countOfOthers() {
        HostYear x = Given.wishing(3, 0, 1, 1, 1, 0, 1);
        x.clock(4);
        x.term(5);
        for (int year = 0; year < 6; year++) {
            x.close();
        }
        dueTake("22", x, 2);
        Check.read(x, 0, "cost 1;".repeat(7));
        Check.read(x, 1, "cost 1;".repeat(9));
        Check.lay(x, "0123456789");
        int[] due = {3, 8, 4, 5, 6, 2, 7, 9, 10};
        for (int what = 0; what < due.length; what++) {
            Check.due("22: count(" + what + ")", x.count(what), due[what]);
        }
        for (int what : new int[] {LOW, -2, -1, 9, 10, HIGH}) {
            Check.due("22: count(" + what + ")", x.count(what), NONE);
        }
    }
}
