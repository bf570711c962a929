/** Each promise of the document by hand: what is ordinary, the edges it names, and wrong inputs. */
public final class PromisesTest {
    private static final int NONE = -1;
    private static final int LOW = Integer.MIN_VALUE;
    private static final int HIGH = Integer.MAX_VALUE;

    public static void main(String[] args) {
        newObject();
        feed();
        back();
        read();
        faultsOfSyntax();
        faultsOfRoom();
        lateFaults();
        place();
        family();
        clock();
        term();
        tell();
        known();
        why();
        cost();
        roundMostGo();
        roundChains();
        roundOrder();
        roundByTextAndDay();
        goesAndCosts();
        take();
        takeNotClosed();
        fall();
        fallLeavesOthers();
        fallTwice();
        moved();
        close();
        closeDebts();
        link();
        of();
        count();
        Check.end("PromisesTest");
    }

    private static void newObject() {
        HostYear x = new HostYear();
        for (int what = 0; what <= 8; what++) {
            Check.due("1: count(" + what + ")", x.count(what), 0);
        }
        Check.due("1: place()", x.place(), NONE);
        Check.due("1: goes(0)", x.goes(0), NONE);
        Check.due("1: costs()", x.costs(), NONE);
        Check.due("1: take()", x.take(), NONE);
        Check.due("1: fall(0)", x.fall(0), NONE);
        Check.due("1: moved(0)", x.moved(0), NONE);
        Check.due("1: link(0, 0)", x.link(0, 0), NONE);
        Check.due("1: of(0, 3)", x.of(0, 3), NONE);
    }

    private static void feed() {
        HostYear x = new HostYear();
        // "cost 258;" behind blanks: the highest byte of a comes first, that of e last but three.
        Check.due("2: feed", x.feed(0x636F7374, 0x20323538, 0x3B202020, 0x20202020, 0x20202020), 20);
        Check.due("2: read", x.read(0), 0);
        Check.due("2: rules", x.count(6), 1);
        Check.due("2: feed of no letters", x.feed(-1, LOW, HIGH, 0, 128), 20);
        Check.due("2: read of no letters", x.read(0), 1);
        Check.due("2: place of no letters", x.place(), 0);
        for (int i = 1; i <= 150; i++) {
            Check.due("2: feed " + i, x.feed(0x20202020, 0x20202020, 0x20202020, 0x20202020, 0x20202020), 20 * i);
        }
        Check.due("2: feed of too much", x.feed(0, 0, 0, 0, 0), NONE);
        Check.due("2: bytes", x.count(8), 3000);
        x.back(19);
        Check.due("2: feed of one byte too much", x.feed(0, 0, 0, 0, 0), NONE);
        Check.due("2: bytes still", x.count(8), 2981);
        x.back(1);
        Check.due("2: feed to the brim", x.feed(0x20202020, 0x20202020, 0x20202020, 0x20202020, 0x20202020), 3000);
        Check.due("2: read of 3000 blanks", x.read(1), 0);
    }

    private static void back() {
        HostYear x = new HostYear();
        Check.due("3: back(0) of nothing", x.back(0), 0);
        Check.due("3: back(1) of nothing", x.back(1), NONE);
        Check.lay(x, "cost 1;x");
        Check.due("3: back(-1)", x.back(-1), NONE);
        Check.due("3: back(LOW)", x.back(LOW), NONE);
        Check.due("3: back(HIGH)", x.back(HIGH), NONE);
        Check.due("3: back(9)", x.back(9), NONE);
        Check.due("3: bytes", x.count(8), 8);
        Check.due("3: back(0)", x.back(0), 8);
        Check.due("3: back(1)", x.back(1), 7);
        Check.due("3: read", x.read(0), 0);
        Check.lay(x, "cost 1;");
        Check.due("3: back(7)", x.back(7), 0);
    }

    private static void read() {
        HostYear x = new HostYear();
        Check.lay(x, "cost 1; bar 1 == 2;");
        for (int slot : new int[] {-1, 2, LOW, HIGH}) {
            Check.due("4: read(" + slot + ")", x.read(slot), NONE);
            Check.due("4: the tape stays", x.count(8), 19);
        }
        Check.due("4: read(1)", x.read(1), 0);
        Check.due("4: the tape is empty", x.count(8), 0);
        Check.due("4: rules of 0", x.count(6), 0);
        Check.due("4: rules of 1", x.count(7), 2);
        Check.due("4: a fault", Check.read(x, 1, "cost 1; cost 2; cost 3; cost"), 1);
        Check.due("4: a fault empties the tape", x.count(8), 0);
        Check.due("4: a fault changes nothing", x.count(7), 2);
        Check.due("4: an empty tape", x.read(1), 0);
        Check.due("4: is an empty text", x.count(7), 0);
        Check.dueRead("trait\ta;\ntrait b2;\rbar p.a<h.b2;cost-1 if 1<=2 and 2!=3 or not[1==1];", 0, NONE);
        Check.dueRead("trait trait1;trait pp;cost p . trait1 * h . pp;", 0, NONE);
        Check.dueRead("cost 0007;", 0, NONE);
        Check.dueRead("cost 12if 1<2;", 0, NONE);
    }

    private static void faultsOfSyntax() {
        Check.dueRead("cost", 1, 4);
        Check.dueRead("cost 1  ", 1, 8);
        Check.dueRead("bar 1;", 1, 5);
        Check.dueRead("bar 1 = 1;", 1, 6);
        Check.dueRead("bar 1 === 1;", 1, 8);
        Check.dueRead("bar 1 > 1;", 1, 6);
        Check.dueRead("bar 1 < = 1;", 1, 8);
        Check.dueRead("bar [1 == 1;", 1, 11);
        Check.dueRead("bar (1 == 1);", 1, 7);
        Check.dueRead("bar [1] == 1;", 1, 6);
        Check.dueRead("bar 1 == 1 == 1;", 1, 11);
        Check.dueRead("bar not not;", 1, 11);
        Check.dueRead("cost 12345;", 1, 5);
        Check.dueRead("cost --1;", 1, 6);
        Check.dueRead("cost 1*-1;", 1, 7);
        Check.dueRead("cost +1;", 1, 5);
        Check.dueRead("cost (1;", 1, 7);
        Check.dueRead("cost ();", 1, 6);
        Check.dueRead("cost a;", 1, 5);
        Check.dueRead("cost p;", 1, 6);
        Check.dueRead("cost p.p;", 1, 7);
        Check.dueRead("cost p.1;", 1, 7);
        Check.dueRead("cost 1 if;", 1, 9);
        Check.dueRead("cost 1 if 1==1 if 1==1;", 1, 15);
        Check.dueRead("trait p;", 1, 6);
        Check.dueRead("trait cost;", 1, 6);
        Check.dueRead("trait abcdefghi;", 1, 6);
        Check.dueRead("trait Abc;", 1, 6);
        Check.dueRead("trait aB;", 1, 7);
        Check.dueRead("trait 1a;", 1, 6);
        Check.dueRead("trait a", 1, 7);
        Check.dueRead("trait a;;", 1, 8);
        Check.dueRead("cost 1;trait a;", 1, 7);
        Check.dueRead(";", 1, 0);
        Check.dueRead(" \u000b", 1, 1);
        Check.dueRead("cost 1;\u00a0", 1, 7);
    }

    private static void faultsOfRoom() {
        String nine = "trait a;trait b;trait c;trait d;trait e;trait f;trait g;trait i;";
        Check.dueRead(nine, 0, NONE);
        Check.dueRead(nine + "trait j;", 2, 64);
        Check.dueRead(nine + "trait;", 2, 64);
        Check.dueRead("cost 1;".repeat(20), 0, NONE);
        Check.dueRead("cost 1;".repeat(20) + "bar 1==1;", 2, 140);
        Check.dueRead("cost 1;".repeat(20) + "trait a;", 1, 140);
        Check.dueRead("cost " + "(".repeat(8) + "1" + ")".repeat(8) + ";", 0, NONE);
        Check.dueRead("cost " + "(".repeat(9) + "1" + ")".repeat(9) + ";", 2, 13);
        Check.dueRead("cost " + "(".repeat(8) + "1" + ")".repeat(8) + "(1);", 1, 22);
        Check.dueRead("cost " + "(".repeat(8) + "1" + ")".repeat(8) + "*(1);", 0, NONE);
        Check.dueRead("bar " + "not ".repeat(8) + "1==1;", 0, NONE);
        Check.dueRead("bar " + "not ".repeat(9) + "1==1;", 2, 36);
        Check.dueRead("bar " + "not ".repeat(8) + "(1)==1;", 2, 36);
        Check.dueRead("bar " + "not ".repeat(8) + "1==1 and not 1==1;", 0, NONE);
        Check.dueRead("bar not [ not [ not [ not [ (1)==1 ] ] ] ];", 2, 28);
        Check.dueRead("bar not [ not [ not [ not [ 1==1 ] ] ] ] or not [(1)==1];", 0, NONE);
        Check.dueRead("cost 1" + "+1".repeat(298) + ";cost", 1, 607);
        // 599 TOKENS, then the 600th, the 601st.
        String most = "cost 1" + "+1".repeat(298);
        Check.dueRead(most + ";", 0, NONE);
        Check.dueRead("cost -1" + "+1".repeat(298) + ";", 0, NONE);
        Check.dueRead("cost 1" + "+1".repeat(299) + ";", 2, 604);
        Check.dueRead("cost 1" + "+1".repeat(299) + "?", 1, 604);
        Check.dueRead("cost 1" + "+1".repeat(299) + ")", 1, 604);
        Check.dueRead("cost 1" + "+1".repeat(299), 1, 604);
    }

    private static void lateFaults() {
        Check.dueRead("trait a;trait b;trait a;trait b;", 3, 22);
        Check.dueRead("trait a;trait a;cost p.b;", 3, 14);
        Check.dueRead("trait a;cost p.b + h.c;", 4, 15);
        Check.dueRead("trait a;cost h.a + h.c;", 4, 21);
        Check.dueRead("trait a;trait a;cost p.b", 1, 24);
        Check.dueRead("trait a;trait a;" + "cost p.b;".repeat(21), 2, 16 + 180);
    }

    private static void place() {
        HostYear x = new HostYear();
        Check.read(x, 0, "cost 1");
        Check.due("5: place", x.place(), 6);
        Check.due("5: place again", x.place(), 6);
        Check.read(x, 1, "cost ?");
        Check.due("5: place of the latest", x.place(), 5);
        Check.read(x, 0, "cost 1;");
        Check.due("5: place without", x.place(), NONE);
        Check.read(x, 0, "cost p.x;");
        Check.due("5: place of a late one", x.place(), 7);
        Check.read(x, 0, "cost 1;");
        Check.due("5: place without, behind a late one", x.place(), NONE);
    }

    private static void family() {
        HostYear x = new HostYear();
        for (int f = 0; f < 12; f++) {
            Check.due("6: family()", x.family(), f);
        }
        Check.due("6: a 13th", x.family(), NONE);
        Check.due("6: count", x.count(0), 12);
        Check.due("6: the last is there", x.of(11, 3), 0);
        Check.due("6: a 13th is not", x.of(12, 3), NONE);
    }

    private static void clock() {
        HostYear x = new HostYear();
        Check.due("7: clock(-1)", x.clock(-1), false);
        Check.due("7: clock(0)", x.clock(0), true);
        Check.due("7: clock(7)", x.clock(7), true);
        Check.due("7: clock(7) again", x.clock(7), true);
        Check.due("7: clock(6)", x.clock(6), false);
        Check.due("7: clock(100001)", x.clock(100001), false);
        Check.due("7: clock(LOW)", x.clock(LOW), false);
        Check.due("7: clock(HIGH)", x.clock(HIGH), false);
        Check.due("7: count(2)", x.count(2), 7);
        Check.due("7: clock(100000)", x.clock(100000), true);
        Check.due("7: count(2) at the end", x.count(2), 100000);
    }

    private static void term() {
        HostYear x = new HostYear();
        x.clock(50);
        Check.due("8: term(100000)", x.term(100000), true);
        Check.due("8: term(100001)", x.term(100001), false);
        Check.due("8: term(-1)", x.term(-1), false);
        Check.due("8: term(LOW)", x.term(LOW), false);
        Check.due("8: count(3)", x.count(3), 100000);
        Check.due("8: a term may go back", x.term(3), true);
        Check.due("8: count(3) then", x.count(3), 3);
        Check.due("8: term(0)", x.term(0), true);
    }

    private static void tell() {
        HostYear x = Given.families(3);
        int[][] edges = {
            {0, 0, 1}, {1, 0, 1}, {2, 0, 1}, {3, 0, 1}, {4, 0, 100000}, {5, 0, 1000},
            {10, -999, 999}, {17, -999, 999}, {20, 0, 9}, {22, 0, 9}
        };
        int told = 0;
        for (int[] edge : edges) {
            Check.due("9: below, of what " + edge[0], x.tell(1, edge[0], edge[1] - 1), NONE);
            Check.due("9: above, of what " + edge[0], x.tell(1, edge[0], edge[2] + 1), NONE);
            Check.due("9: least, of what " + edge[0], x.tell(1, edge[0], edge[1]), told++);
            Check.due("9: most, of what " + edge[0], x.tell(1, edge[0], edge[2]), told++);
            Check.due("9: known of what " + edge[0], x.known(1, edge[0], 0), edge[2]);
        }
        for (int what : new int[] {-1, 6, 7, 8, 9, 18, 19, 23, 31, 32, LOW, HIGH}) {
            Check.due("9: what " + what, x.tell(1, what, 0), NONE);
        }
        for (int f : new int[] {-1, 3, 12, LOW, HIGH}) {
            Check.due("9: family " + f, x.tell(f, 0, 0), NONE);
        }
        Check.due("9: count(1)", x.count(1), told);
        while (told < 400) {
            Check.due("9: fact", x.tell(0, 5, 1 + told % 7), told++);
        }
        Check.due("9: a 401st", x.tell(0, 5, 999), NONE);
        Check.due("9: count(1) of all", x.count(1), 400);
        Check.due("9: it did not happen", x.known(0, 5, 0), 1 + 399 % 7);
    }

    private static void known() {
        HostYear x = Given.families(2);
        x.clock(3);
        x.tell(0, 10, 4);
        x.tell(0, 10, 5);
        x.clock(8);
        x.tell(0, 10, -6);
        x.tell(1, 10, 7);
        Check.due("10: ahead of all", x.known(0, 10, 2), 0);
        Check.due("10: the latest of its day", x.known(0, 10, 3), 5);
        Check.due("10: between", x.known(0, 10, 7), 5);
        Check.due("10: on the day", x.known(0, 10, 8), -6);
        Check.due("10: the last day", x.known(0, 10, 100000), -6);
        Check.due("10: of the other", x.known(1, 10, 8), 7);
        Check.due("10: another what", x.known(0, 11, 8), 0);
        Check.due("10: day 100001", x.known(0, 10, 100001), 0);
        Check.due("10: day -1", x.known(0, 10, -1), 0);
        Check.due("10: day HIGH", x.known(0, 10, HIGH), 0);
        for (int f : new int[] {-1, 2, 12, LOW, HIGH}) {
            Check.due("10: family " + f, x.known(f, 10, 8), 0);
        }
        for (int what : new int[] {-1, 6, 9, 18, 22, 36, LOW, HIGH}) {
            Check.due("10: what " + what, x.known(0, what, 8), 0);
        }
    }

    private static void why() {
        HostYear x = Given.families(2);
        Check.read(x, 0, "trait t; cost 5; bar p.t == 1; bar h.t < p.t;");
        Check.due("11: itself ahead of all", x.why(0, 0, 1, 1), 1);
        Check.due("11: no pupil", x.why(0, 0, 0, 1), 2);
        x.tell(0, 0, 1);
        Check.due("11: no home", x.why(0, 0, 0, 1), 3);
        x.tell(1, 1, 1);
        x.tell(0, 4, 1);
        Check.due("11: no wish", x.why(0, 0, 0, 1), 4);
        x.tell(0, 21, 1);
        x.tell(0, 10, 1);
        Check.due("11: papers", x.why(0, 0, 0, 1), 5);
        x.term(1);
        Check.due("11: the first bar of two", x.why(0, 0, 0, 1), 11);
        x.tell(0, 10, 2);
        Check.due("11: the other bar", x.why(0, 0, 0, 1), 12);
        x.tell(1, 10, 2);
        Check.due("11: it may", x.why(0, 0, 0, 1), 0);
        x.tell(1, 4, 9);
        Check.due("11: papers of the home do not count", x.why(0, 0, 0, 1), 0);
        x.clock(4);
        x.tell(0, 0, 0);
        Check.due("11: by the day", x.why(0, 3, 0, 1), 0);
        Check.due("11: by a later day", x.why(0, 4, 0, 1), 2);
        Check.due("11: by a day to come", x.why(0, 100000, 0, 1), 2);
        int[][] wrong = {{-1, 0, 0, 1}, {2, 0, 0, 1}, {0, -1, 0, 1}, {0, 100001, 0, 1}, {0, 0, -1, 1},
            {0, 0, 2, 1}, {0, 0, 0, -1}, {0, 0, 0, 2}, {0, 0, 2, 2}, {HIGH, HIGH, HIGH, HIGH}, {LOW, LOW, LOW, LOW}};
        for (int[] w : wrong) {
            Check.due("11: wrong", x.why(w[0], w[1], w[2], w[3]), NONE);
            Check.due("12: wrong", x.cost(w[0], w[1], w[2], w[3]), NONE);
        }
    }

    private static int costBy(String text) {
        HostYear x = Given.wishing(2, 0, 1, 3);
        x.tell(0, 10, -7);
        x.tell(1, 10, 20);
        Check.due("12: read of <" + text + ">", Check.read(x, 1, text), 0);
        return x.cost(1, 0, 0, 1);
    }

    private static void cost() {
        Check.due("12: the wish alone", costBy(""), 3);
        Check.due("12: p and h", costBy("trait t; cost h.t + p.t * 2;"), 9);
        Check.due("12: minus of the first part", costBy("cost -2 * 3 + 9;"), 6);
        Check.due("12: from the left", costBy("cost 90 - 20 - 30;"), 43);
        Check.due("12: brackets", costBy("cost 90 - (20 - 30);"), 103);
        Check.due("12: one that holds, one not", costBy("cost 10 if 1 < 2; cost 100 if 2 < 2; cost 1000 if 2 <= 2;"), 1013);
        Check.due("12: and ahead of or", costBy("cost 5 if 1 == 1 or 1 == 2 and 1 == 2;"), 8);
        Check.due("12: not of one LIT", costBy("cost 5 if not 1 == 2 and 1 == 2;"), 3);
        Check.due("12: not of brackets", costBy("cost 5 if not [1 == 2 and 1 == 2];"), 8);
        Check.due("12: not not", costBy("cost 5 if not not 1 != 1;"), 3);
        Check.due("12: less than 0", costBy("cost 0 - 4;"), 0);
        Check.due("12: just 0", costBy("cost -3;"), 0);
        Check.due("12: just the most", costBy("cost 9997;"), 10000);
        Check.due("12: more", costBy("cost 9998;"), 10000);
        Check.due("12: clamped at the end only", costBy("cost 9999; cost 9999; cost -9999; cost -9990;"), 12);
        // 9999 * 9999 * 9999 is 999700029999, by 32 bits -1031018577.
        Check.due("12: wraps", costBy("cost 9999 * 9999 * 9999;"), 0);
        Check.due("12: wraps to more", costBy("cost -9999 * 9999 * 9999;"), 10000);
        HostYear x = Given.wishing(2, 0, 1, 3);
        Check.due("12: it may not", x.cost(0, 0, 1, 0), NONE);
        Check.due("12: to itself", x.cost(0, 0, 0, 0), NONE);
        Check.read(x, 0, "bar 1 == 1; cost 1;");
        Check.due("12: a bar", x.cost(0, 0, 0, 1), NONE);
        Check.due("12: no bar in the other slot", x.cost(1, 0, 0, 1), 3);
    }

    private static void roundMostGo() {
        // A ring of three is dearer than one of two, but more go.
        HostYear x = Given.wishing(3, 0, 1, 9, 1, 2, 9, 2, 0, 9, 0, 2, 1);
        Check.due("13: three go", x.round(0, 0), 3);
        Check.dueGoes("13", x, 1, 2, 0);
        Check.due("15: costs()", x.costs(), 27);
        // Two rings of two against two others: the least COST.
        x = Given.wishing(4, 0, 1, 2, 1, 0, 2, 2, 3, 2, 3, 2, 2, 0, 2, 1, 2, 0, 1, 1, 3, 2, 3, 1, 2);
        Check.due("13: four go", x.round(0, 0), 4);
        Check.dueGoes("13: least cost", x, 2, 3, 0, 1);
        Check.due("15: costs() of these", x.costs(), 6);
    }

    private static void roundChains() {
        HostYear x = Given.wishing(3, 0, 1, 1, 1, 2, 1);
        Check.due("13: no chain without an end", x.round(0, 0), 0);
        x.tell(2, 2, 1);
        Check.due("13: nor without a beginning", x.round(0, 0), 0);
        x.tell(0, 3, 1);
        Check.due("13: a chain", x.round(0, 0), 2);
        Check.dueGoes("13: chain", x, 1, 2, NONE);
        x.tell(1, 3, 1);
        x.tell(0, 3, 0);
        Check.due("13: a shorter chain", x.round(0, 0), 1);
        Check.dueGoes("13: shorter", x, NONE, 2, NONE);
        x.tell(2, 2, 0);
        Check.due("13: none who takes one in", x.round(0, 0), 0);
    }

    private static void roundOrder() {
        // All the same: PUPIL 0 to HOME 1, the others to the least that is left.
        HostYear x = Given.wishing(4, 0, 1, 1, 0, 2, 1, 0, 3, 1, 1, 0, 1, 1, 2, 1, 1, 3, 1,
            2, 0, 1, 2, 1, 1, 2, 3, 1, 3, 0, 1, 3, 1, 1, 3, 2, 1);
        Check.due("13: all four", x.round(0, 0), 4);
        Check.dueGoes("13: in order", x, 1, 0, 3, 2);
        // One of two may go to the one home that is given: none stands behind all, so 0 goes.
        x = Given.wishing(3, 0, 2, 5, 1, 2, 5);
        x.tell(0, 3, 1);
        x.tell(1, 3, 1);
        x.tell(2, 2, 1);
        Check.due("13: one of two", x.round(0, 0), 1);
        Check.dueGoes("13: the first of them", x, 2, NONE, NONE);
        x.tell(0, 22, 6);
        x.round(0, 0);
        Check.dueGoes("13: the cost ahead of the order", x, NONE, 2, NONE);
    }

    private static void roundByTextAndDay() {
        HostYear x = Given.wishing(2, 0, 1, 1, 1, 0, 1);
        Check.read(x, 1, "trait t; bar p.t == 1;");
        x.clock(5);
        x.tell(0, 10, 1);
        Check.due("13: by slot 0", x.round(0, 5), 2);
        Check.due("13: by slot 1", x.round(1, 5), 0);
        Check.due("13: by slot 1, earlier", x.round(1, 4), 2);
        Check.due("13: slot 2", x.round(2, 5), NONE);
        Check.due("13: slot -1", x.round(-1, 5), NONE);
        Check.due("13: day -1", x.round(0, -1), NONE);
        Check.due("13: day 100001", x.round(0, 100001), NONE);
        Check.due("13: the one at hand stays", x.goes(0), 1);
        Check.due("13: day 100000", x.round(1, 100000), 0);
    }

    private static void goesAndCosts() {
        HostYear x = Given.wishing(2, 0, 1, 4, 1, 0, 2);
        Check.due("14: no round at hand", x.goes(0), NONE);
        Check.due("15: no round at hand", x.costs(), NONE);
        x.round(0, 0);
        Check.due("14: goes(1)", x.goes(1), 0);
        Check.due("14: goes(2)", x.goes(2), NONE);
        Check.due("14: goes(-1)", x.goes(-1), NONE);
        Check.due("14: goes(HIGH)", x.goes(HIGH), NONE);
        Check.due("15: costs()", x.costs(), 6);
        x.tell(0, 21, 9);
        Check.due("15: as it was found", x.costs(), 6);
        x.family();
        Check.due("14: of one who came later", x.goes(2), NONE);
        x.take();
        x.close();
        Check.due("14: still at hand", x.goes(0), 1);
        Check.due("15: still at hand", x.costs(), 6);
    }

    private static void take() {
        HostYear x = Given.wishing(2, 0, 1, 4, 1, 0, 2);
        Check.due("16: none at hand", x.take(), NONE);
        x.round(0, 0);
        Check.due("16: take()", x.take(), 2);
        Check.dueYear("16", x, 1, 0);
        Check.due("16: once a year", x.take(), -2);
        x.fall(0);
        Check.due("16: also behind a fall", x.take(), -2);
        x.close();
        Check.due("16: next year, the same one", x.take(), 2);
        x.close();
        x.tell(0, 21, 0);
        x.round(0, 0);
        Check.due("16: nobody", x.take(), 0);
        Check.due("16: nobody is PLACES too", x.take(), -2);
        x.tell(0, 0, 0);
        Check.due("16: -2 ahead of -3", x.take(), -2);
    }

    private static void takeNotClosed() {
        HostYear x = Given.wishing(2, 0, 1, 4, 1, 0, 2);
        x.round(1, 0);
        Check.read(x, 0, "bar 1 == 1;");
        Check.due("16: barred by slot 0", x.take(), -3);
        Check.due("16: nothing is taken", x.count(5), 0);
        Check.read(x, 0, "");
        x.clock(2);
        x.tell(1, 1, 0);
        Check.due("16: no home now", x.take(), -3);
        x.tell(1, 1, 1);
        Check.due("16: closed again", x.take(), 2);
        x = Given.wishing(2, 0, 1, 4);
        x.tell(0, 3, 1);
        x.tell(1, 2, 1);
        x.round(0, 0);
        x.tell(0, 3, 0);
        Check.due("16: no trust now", x.take(), -3);
        x.tell(0, 3, 1);
        x.tell(1, 2, 0);
        Check.due("16: no giver now", x.take(), -3);
        x.tell(1, 2, 1);
        Check.due("16: a chain", x.take(), 1);
        x.close();
        Check.due("16: a debt now", x.take(), -3);
    }

    private static void fall() {
        HostYear x = Given.wishing(3, 0, 1, 1, 1, 2, 1, 2, 0, 1, 0, 2, 5);
        Check.due("17: no year", x.fall(0), NONE);
        x.round(0, 0);
        Check.due("17: only at hand", x.fall(0), NONE);
        x.take();
        for (int p : new int[] {-1, 3, 12, LOW, HIGH}) {
            Check.due("17: family " + p, x.fall(p), NONE);
        }
        Check.due("17: fall(1)", x.fall(1), 1);
        Check.dueYear("17", x, 2, NONE, 0);
        Check.due("17: fell out", x.of(1, 2), 1);
        Check.due("17: fall(1) again", x.fall(1), NONE);
        Check.due("17: the ring of two ends", x.fall(0), 1);
        Check.dueYear("17: nobody", x, NONE, NONE, NONE);
        Check.due("17: who only moved did not fall out", x.of(2, 2), 0);
        Check.due("17: one without a place", x.fall(2), NONE);
    }

    private static void fallLeavesOthers() {
        // 0 - 1 and 2 - 3 in rings; as 0 falls, 1 could go in a ring with 2 and 3, who would move.
        HostYear x = Given.wishing(4, 0, 1, 1, 1, 0, 1, 2, 3, 1, 3, 2, 1, 1, 2, 1, 3, 1, 1);
        x.round(0, 0);
        x.take();
        Check.due("17: only one moves", x.fall(0), 1);
        Check.dueYear("17: though fewer go", x, NONE, NONE, 3, 2);
        // One who had no place may get one, and does not MOVE by that.
        x = Given.wishing(3, 0, 1, 1, 1, 0, 1, 2, 1, 1);
        x.tell(1, 3, 1);
        x.tell(0, 2, 1);
        x.tell(2, 3, 1);
        x.round(0, 0);
        Check.dueGoes("17: 0 goes first", x, 1, 0, NONE);
        x.take();
        Check.due("17: none moves", x.fall(0), 0);
        Check.dueYear("17: 2 has the place now", x, NONE, 0, 1);
        // By what is known now: who may not go any more moves too.
        x = Given.wishing(4, 0, 1, 1, 1, 0, 1, 2, 3, 1, 3, 2, 1);
        x.round(0, 0);
        x.take();
        x.tell(3, 0, 0);
        Check.due("17: all three others", x.fall(0), 3);
        Check.dueYear("17: nobody is left", x, NONE, NONE, NONE, NONE);
    }

    private static void fallTwice() {
        // Behind the first fall 1 has no place; that it gets one by the second is no MOVE.
        HostYear x = Given.wishing(4, 0, 1, 1, 1, 0, 1, 2, 3, 1, 3, 2, 1, 1, 2, 1, 2, 1, 1);
        x.round(0, 0);
        x.take();
        Check.due("17: the first", x.fall(0), 1);
        Check.dueYear("17: behind the first", x, NONE, NONE, 3, 2);
        Check.due("17: the second", x.fall(3), 1);
        Check.dueYear("17: behind the second", x, NONE, 2, 1, NONE);
        Check.due("18: 2 moved", x.moved(0), 2);
        Check.due("18: 1 did not", x.moved(1), NONE);
        Check.due("17: 0 fell out", x.of(0, 2), 1);
        Check.due("17: and 3", x.of(3, 2), 1);
        x.close();
        Check.due("17: a round of the next year", x.round(0, 0), 4);
    }

    private static void moved() {
        HostYear x = Given.wishing(4, 0, 1, 1, 1, 2, 1, 2, 3, 1, 3, 0, 1);
        Check.due("18: ahead of any", x.moved(0), NONE);
        x.round(0, 0);
        x.take();
        Check.due("18: all others", x.fall(1), 3);
        Check.due("18: moved(0)", x.moved(0), 0);
        Check.due("18: moved(1)", x.moved(1), 2);
        Check.due("18: moved(2)", x.moved(2), 3);
        Check.due("18: moved(3)", x.moved(3), NONE);
        Check.due("18: moved(-1)", x.moved(-1), NONE);
        Check.due("18: moved(LOW)", x.moved(LOW), NONE);
        Check.due("18: moved(HIGH)", x.moved(HIGH), NONE);
        Check.due("18: a fall that is NONE", x.fall(1), NONE);
        Check.due("18: does not count", x.moved(2), 3);
        x.close();
        Check.due("18: behind close()", x.moved(0), NONE);
    }

    private static void close() {
        HostYear x = Given.wishing(3, 0, 1, 1, 1, 2, 1, 2, 0, 1);
        Check.due("19: without PLACES", x.close(), 0);
        Check.due("19: a year all the same", x.count(4), 1);
        x.tell(0, 5, 100);
        x.tell(1, 5, 30);
        x.tell(2, 5, 7);
        x.round(0, 0);
        x.take();
        x.clock(9);
        x.tell(2, 5, 8);
        Check.due("19: close()", x.close(), 3);
        Check.due("19: money of 0", x.of(0, 5), 70);
        Check.due("19: money of 1, as known then", x.of(1, 5), 22);
        Check.due("19: money of 2", x.of(2, 5), -92);
        Check.due("19: no debt in a ring", x.of(0, 3), 0);
        Check.due("19: none given in a ring", x.of(0, 4), 0);
        Check.due("19: nobody goes", x.count(5), 0);
        Check.due("19: years", x.count(4), 2);
        x.round(0, 0);
        x.take();
        x.fall(0);
        x.close();
        Check.due("19: none fell out", x.of(0, 2), 0);
        Check.due("19: and nothing was paid", x.of(0, 5), 70);
    }

    private static void closeDebts() {
        HostYear x = Given.wishing(3, 0, 1, 1, 1, 2, 1);
        x.tell(0, 3, 1);
        x.tell(2, 2, 1);
        x.tell(2, 5, 5);
        x.round(0, 0);
        x.take();
        Check.due("19: a chain", x.close(), 2);
        Check.due("19: debt of the first", x.of(0, 3), 1);
        Check.due("19: of the one between", x.of(1, 3), 0);
        Check.due("19: given by the last", x.of(2, 4), 1);
        Check.due("19: debt of the last", x.of(2, 3), 0);
        Check.due("19: money of the last", x.of(2, 5), 5);
        Check.due("19: who has a debt goes for nobody", x.round(0, 0), 0);
        // One with a DEBT takes one in though it is no GIVER: the DEBT goes, and none is GIVEN.
        x.tell(2, 3, 1);
        x.tell(2, 20, 1);
        x.tell(0, 21, 0);
        Check.due("19: a chain back", x.round(0, 0), 1);
        Check.dueGoes("19", x, NONE, NONE, 0);
        x.take();
        x.close();
        Check.due("19: the debt is gone", x.of(0, 3), 0);
        Check.due("19: nothing was given", x.of(0, 4), 0);
        Check.due("19: the other has one", x.of(2, 3), 1);
        Check.due("19: once only", x.round(0, 0), 0);
    }

    private static void link() {
        HostYear x = Given.wishing(6, 0, 1, 1, 1, 2, 1, 2, 0, 1, 3, 4, 1, 4, 5, 1);
        x.tell(3, 3, 1);
        x.tell(5, 2, 1);
        Check.due("20: no year", x.link(0, 1), NONE);
        Check.due("20: itself", x.link(0, 0), 0);
        x.round(0, 0);
        x.take();
        int[][] rows = {{0, 1, 2, NONE}, {1, 2, 0, NONE}, {3, 4, 5, NONE}, {4, 5, NONE}, {5, NONE}};
        for (int[] row : rows) {
            for (int i = 0; i < row.length; i++) {
                Check.due("20: link(" + row[0] + ", " + i + ")", x.link(row[0], i), row[i]);
            }
            Check.due("20: far on", x.link(row[0], HIGH), NONE);
            Check.due("20: below 0", x.link(row[0], -1), NONE);
        }
        Check.due("20: after twelve", x.link(0, 12), NONE);
        Check.due("20: family -1", x.link(-1, 0), NONE);
        Check.due("20: family 6", x.link(6, 0), NONE);
        linkOfTwelve();
    }

    private static void linkOfTwelve() {
        HostYear x = Given.wishing(12);
        for (int f = 0; f < 12; f++) {
            x.tell(f, 20 + (f + 5) % 12, 9);
        }
        Check.due("20: all twelve", x.round(0, 0), 12);
        x.take();
        for (int i = 0; i < 12; i++) {
            Check.due("20: the long row " + i, x.link(3, i), (3 + 5 * i) % 12);
        }
        Check.due("20: the long row has ended", x.link(3, 12), NONE);
    }

    private static void of() {
        HostYear x = Given.wishing(3, 0, 1, 1, 1, 2, 1);
        x.tell(0, 3, 1);
        x.tell(2, 2, 1);
        x.round(0, 0);
        Check.due("21: not yet", x.of(0, 0), NONE);
        x.take();
        Check.due("21: home of 0", x.of(0, 0), 1);
        Check.due("21: guest of 0", x.of(0, 1), NONE);
        Check.due("21: guest of 1", x.of(1, 1), 0);
        Check.due("21: home of 2", x.of(2, 0), NONE);
        Check.due("21: guest of 2", x.of(2, 1), 1);
        Check.due("21: fell out", x.of(0, 2), 0);
        for (int what : new int[] {-1, 6, LOW, HIGH}) {
            Check.due("21: what " + what, x.of(0, what), NONE);
        }
        for (int f : new int[] {-1, 3, 12, LOW, HIGH}) {
            for (int what = 0; what <= 5; what++) {
                Check.due("21: family " + f, x.of(f, what), NONE);
            }
        }
    }

    private static void count() {
        HostYear x = Given.wishing(2, 0, 1, 1, 1, 0, 1);
        x.clock(12);
        x.term(34);
        x.close();
        x.round(0, 12);
        x.take();
        Check.read(x, 0, "cost 1;");
        Check.read(x, 1, "cost 1; bar 1 == 2; cost 2;");
        Check.lay(x, "cost");
        int[] due = {2, 6, 12, 34, 1, 2, 1, 3, 4};
        for (int what = 0; what < due.length; what++) {
            Check.due("22: count(" + what + ")", x.count(what), due[what]);
        }
        for (int what : new int[] {-1, 9, LOW, HIGH}) {
            Check.due("22: count(" + what + ")", x.count(what), NONE);
        }
    }
}
