import java.util.ArrayList;
import java.util.List;

/**
 * A call that is refused, and one that only asks, changes nothing: two offices with the same run
 * of calls behind them, of which one is asked that call too, answer all later calls alike.
 */
public final class RefusedTest {
    private static final int NONE = -1;
    private static final String LOW = " " + Integer.MIN_VALUE;
    private static final String HIGH = " " + Integer.MAX_VALUE;

    private final String title;
    private final List<String> earlier;
    private final List<String> later;

    private RefusedTest(String title, List<String> earlier, List<String> later) {
        this.title = title;
        this.earlier = earlier;
        this.later = later;
    }

    public static void main(String[] args) {
        busyOffice();
        idleOffice();
        fullOffice();
        fullTape();
        openRound();
        Check.end("RefusedTest");
    }

    /** The answer is due from each of the calls, and none of them is seen in what comes later. */
    private void due(int answer, String... calls) {
        for (String call : calls) {
            HostYear plain = Calls.made(earlier);
            HostYear other = Calls.made(earlier);
            Check.due(title + ": " + call, Calls.answer(other, call), answer);
            dueAlike(call, plain, other);
        }
    }

    /** None of these, which only ask, is seen in what comes later. */
    private void dueUnseen(List<String> calls) {
        for (String call : calls) {
            HostYear plain = Calls.made(earlier);
            HostYear other = Calls.made(earlier);
            Calls.answer(other, call);
            dueAlike(call, plain, other);
        }
    }

    private void dueAlike(String call, HostYear plain, HostYear other) {
        int calls = earlier.size() + 1 + later.size();
        Check.due(title + ": " + calls + " calls are too many", calls > Calls.MOST, false);
        for (String asked : later) {
            Check.due(title + ": " + asked + " behind " + call, Calls.answer(other, asked), Calls.answer(plain, asked));
        }
    }

    /** The calls of a family that sends one, takes one in, and wishes. */
    private static List<String> family(int f, String... facts) {
        List<String> calls = new ArrayList<>(List.of("tell " + f + " 0 1", "tell " + f + " 1 1"));
        for (String fact : facts) {
            calls.add("tell " + f + " " + fact);
        }
        return calls;
    }

    /** All of an office that can be asked for without a change, by the FAMILIES 0 .. last. */
    private static List<String> look(int last) {
        List<String> calls = new ArrayList<>();
        calls.addAll(Calls.each(0, 8, what -> "count " + what));
        calls.addAll(List.of("place", "costs"));
        calls.addAll(Calls.each(0, last, f -> "goes " + f));
        calls.addAll(Calls.each(0, 3, i -> "moved " + i));
        for (int what = 0; what <= 5; what++) {
            int asked = what;
            calls.addAll(Calls.each(0, last, f -> "of " + f + " " + asked));
        }
        return calls;
    }

    /** What a change of any part would show in: the texts, the tape, the ROUND, the YEAR, the next. */
    private static List<String> useAll() {
        List<String> calls = new ArrayList<>(look(4));
        for (int f = 0; f <= 4; f++) {
            for (int what : new int[] {0, 1, 2, 3, 4, 5, 10, 17, 20, 21, 24}) {
                calls.add("known " + f + " " + what + " 15");
            }
            calls.add("known " + f + " 5 9");
            calls.add("why 0 15 " + f + " 2");
            calls.add("cost 1 9 2 " + f);
        }
        calls.addAll(List.of("read 0", "place", "count 6", "cost 0 15 1 2", "take", "fall 2", "moved 0", "moved 1", "count 5"));
        calls.addAll(List.of("link 1 1", "close", "clock 15", "tell 4 5 1", "family", "take", "of 0 0", "round 0 15", "take"));
        calls.addAll(look(5));
        calls.addAll(List.of("fall 0", "close", "round 1 14", "costs", "take"));
        calls.addAll(look(5));
        return calls;
    }

    /** Two YEARS are closed; in the third one fell out, one moved, and another ROUND is at hand. */
    private static RefusedTest busy() {
        List<String> calls = new ArrayList<>(Calls.each(0, 4, f -> "family"));
        calls.addAll(Calls.lay("trait a;bar p.a==9;cost p.a*2;"));
        calls.add("read 0");
        calls.addAll(Calls.lay("trait a;trait b;cost 5;bar h.b==1;cost 1 if h.a<p.a;"));
        calls.addAll(List.of("read 1", "clock 9", "term 20"));
        calls.addAll(family(0, "21 1", "22 4", "5 100", "10 1", "4 3"));
        calls.addAll(family(1, "22 1", "20 3", "5 250", "10 2"));
        calls.addAll(family(2, "20 1", "23 2", "5 30", "3 1", "21 7"));
        calls.addAll(family(3, "24 1", "22 2", "5 7", "3 1", "17 -999"));
        calls.addAll(family(4, "2 1", "5 1000", "4 20"));
        calls.addAll(List.of("round 0 9", "take", "close", "clock 15", "tell 1 5 260", "close"));
        calls.addAll(List.of("round 0 15", "take", "fall 1", "round 1 12"));
        calls.addAll(Calls.lay("cost 1;cost p.zz;"));
        calls.add("read 1");
        calls.addAll(Calls.lay("trait q;trait r;cost p.r+4;cost 7"));
        calls.addAll(Calls.lay(";cost 8;"));
        return new RefusedTest("busy", calls, useAll());
    }

    private static void busyOffice() {
        RefusedTest test = busy();
        HostYear x = Calls.made(test.earlier);
        Check.due("busy: a DEBT", x.of(3, 3), 1);
        Check.due("busy: GIVEN", x.of(4, 4), 1);
        Check.due("busy: one fell out", x.of(1, 2), 1);
        Check.due("busy: one moved", x.moved(0), 0);
        Check.due("busy: some go", x.count(5), 2);
        Check.due("busy: another ROUND is at hand", x.goes(0) != x.of(0, 0), true);
        Check.due("busy: a FAULT", x.place(), 14);
        Check.due("busy: bytes on the tape", x.count(8), 41);
        refusedWords(test);
        refusedDays(test);
        refusedFacts(test);
        refusedReasons(test);
        refusedYears(test);
        asked(test);
    }

    private static void refusedWords(RefusedTest test) {
        test.due(NONE, "back -1", "back 42", "back" + LOW, "back" + HIGH);
        test.due(NONE, "read -1", "read 2", "read" + LOW, "read" + HIGH);
        test.due(41, "back 0");
    }

    private static void refusedDays(RefusedTest test) {
        test.due(0, "clock 14", "clock 0", "clock -1", "clock 100001", "clock" + LOW, "clock" + HIGH);
        test.due(0, "term -1", "term 100001", "term" + LOW, "term" + HIGH);
        test.due(1, "clock 15", "term 20");
    }

    private static void refusedFacts(RefusedTest test) {
        test.due(NONE, "tell -1 0 0", "tell 5 0 0", "tell 12 0 0", "tell" + LOW + " 0 0", "tell" + HIGH + " 0 0");
        test.due(NONE, "tell 0 -1 0", "tell 0 6 0", "tell 0 9 0", "tell 0 18 0", "tell 0 19 0", "tell 0 25 0");
        test.due(NONE, "tell 0" + LOW + " 0", "tell 0" + HIGH + " 0");
        for (int what = 0; what <= 3; what++) {
            test.due(NONE, "tell 0 " + what + " -1", "tell 0 " + what + " 2", "tell 0 " + what + LOW);
        }
        test.due(NONE, "tell 0 4 -1", "tell 0 4 100001", "tell 0 5 -1", "tell 0 5 1001");
        test.due(NONE, "tell 0 10 -1000", "tell 0 10 1000", "tell 3 17 -1000", "tell 3 17 1000");
        test.due(NONE, "tell 0 20 -1", "tell 0 20 10", "tell 1 24 -1", "tell 1 24 10");
        test.due(0, "known -1 0 15", "known 5 0 15", "known 0 6 15", "known 0 25 15", "known 0 0 -1", "known 0 0 100001");
    }

    private static void refusedReasons(RefusedTest test) {
        for (String name : new String[] {"why", "cost"}) {
            test.due(NONE, name + " -1 9 0 1", name + " 2 9 0 1", name + " 0 -1 0 1", name + " 0 100001 0 1");
            test.due(NONE, name + " 0 9 -1 1", name + " 0 9 5 1", name + " 0 9 0 -1", name + " 0 9 0 5");
        }
        test.due(NONE, "round -1 9", "round 2 9", "round 0 -1", "round 0 100001", "round" + LOW + " 9", "round 1" + HIGH);
        test.due(NONE, "goes -1", "goes 5", "goes" + LOW, "goes" + HIGH);
    }

    private static void refusedYears(RefusedTest test) {
        test.due(-2, "take");
        test.due(NONE, "fall -1", "fall 1", "fall 4", "fall 5", "fall" + LOW, "fall" + HIGH);
        test.due(NONE, "moved -1", "moved 1", "moved" + LOW, "moved" + HIGH);
        test.due(NONE, "link -1 0", "link 5 0", "link 0 -1", "link 0 12", "link 0" + HIGH);
        test.due(NONE, "of -1 0", "of 5 0", "of 0 -1", "of 0 6", "count -1", "count 9");
    }

    private static void asked(RefusedTest test) {
        test.dueUnseen(look(4));
        for (int slot = 0; slot <= 1; slot++) {
            String name = " " + slot + " ";
            test.dueUnseen(Calls.each(0, 3, f -> "why" + name + "9 " + f + " " + (f + 1)));
            test.dueUnseen(Calls.each(0, 3, f -> "cost" + name + "15 " + f + " " + (f + 1)));
        }
        test.dueUnseen(Calls.each(0, 4, f -> "link 0 " + f));
        test.dueUnseen(Calls.each(0, 4, f -> "known " + f + " 5 15"));
    }

    /** No ROUND is at hand, no YEAR has begun, the tape is empty. */
    private static void idleOffice() {
        List<String> calls = new ArrayList<>(Calls.each(0, 4, f -> "family"));
        calls.addAll(family(0, "21 1"));
        calls.addAll(family(1, "20 1"));
        RefusedTest test = new RefusedTest("idle", calls, useAll());
        test.due(NONE, "take", "costs", "goes 0", "fall 0", "moved 0", "back 1", "place", "link 0 1", "of 0 0", "of 0 1");
        test.due(0, "back 0", "of 0 2", "of 0 3", "of 0 4", "of 0 5");
        new RefusedTest("new", List.of(), useAll()).due(NONE, "take", "costs", "goes 0", "fall 0", "moved 0", "back 1",
            "place", "link 0 0", "of 0 0", "of 0 3", "tell 0 0 1", "why 0 0 0 0", "cost 0 0 0 0", "read 2", "round 2 0");
    }

    /** 12 FAMILIES, 400 FACTS. */
    private static void fullOffice() {
        List<String> calls = new ArrayList<>(Calls.each(0, 11, f -> "family"));
        calls.addAll(family(10, "31 1"));
        calls.addAll(family(11, "30 1"));
        calls.addAll(Calls.each(7, 400, i -> "tell 0 5 " + i));
        List<String> later = new ArrayList<>(List.of("count 0", "count 1", "known 0 5 0", "known 0 0 0", "round 0 0", "take"));
        later.addAll(Calls.each(0, 12, f -> "of " + f + " 0"));
        later.addAll(List.of("fall 10", "moved 0", "close", "family", "tell 0 5 3", "known 0 5 0", "clock 1", "tell 0 0 1"));
        later.addAll(List.of("known 0 0 1", "count 1", "count 0"));
        RefusedTest test = new RefusedTest("full", calls, later);
        test.due(NONE, "family", "tell 0 5 1000", "tell 0 0 1", "tell 11 0 0", "tell 10 31 0", "tell 12 0 0", "tell 0 32 0");
    }

    /** 3,000 bytes on the tape, then some less: too many for twenty more. */
    private static void fullTape() {
        String text = "cost 1;" + " ".repeat(2973) + "cost 12345;cost 2;  ";
        for (int less : new int[] {0, 1, 2, 8, 19}) {
            List<String> calls = new ArrayList<>(Calls.lay(text));
            calls.add("back " + less);
            List<String> later = new ArrayList<>(List.of("count 8", "back " + (20 - less - 1), "count 8", "read 1", "place", "count 7"));
            later.addAll(Calls.lay("cost 3;"));
            later.addAll(List.of("count 8", "read 0", "count 6", "place"));
            RefusedTest test = new RefusedTest("tape less " + less, calls, later);
            test.due(NONE, "feed 0 0 0 0 0", "feed -1 -1 -1 -1 -1", "feed 538976288 538976288 538976288 538976288 538976288",
                "back " + (3001 - less), "back -1", "read 2");
            List<String> whole = new ArrayList<>(List.of("count 8", "read 0", "place", "count 6"));
            new RefusedTest("whole tape less " + less, calls, whole).due(NONE, "feed 0 0 0 0 0", "back -1", "read -1");
        }
    }

    /** The ROUND at hand is not CLOSED; once it is, it can be taken. */
    private static void openRound() {
        List<String> calls = new ArrayList<>(List.of("family", "family", "family"));
        calls.addAll(family(0, "21 1"));
        calls.addAll(family(1, "20 1"));
        calls.addAll(List.of("round 0 0", "clock 3", "tell 0 0 0"));
        List<String> later = new ArrayList<>(look(2));
        later.addAll(List.of("take", "fall 0", "tell 0 0 1", "take", "take", "count 5", "fall 1", "moved 0", "close", "take"));
        later.addAll(look(2));
        new RefusedTest("open", calls, later).due(-3, "take");
    }
}
