import java.util.List;
import java.util.Random;
import java.util.function.BiFunction;

/** Runs of calls by chance, each answer beside the one of the Model (promises 1 and 4 to 22). */
public final class RunsTest {
    private static final BiFunction<int[], int[], Boolean> ALWAYS = (p, h) -> true;

    private static final List<Model.Known> TEXTS = List.of(
        new Model.Known("", 0, -1, List.of()),
        new Model.Known("trait a; trait b; bar p.a == h.a and p.b < h.b; cost p.a * h.b - 3 if not [p.a < 0]; cost 2;",
            0, -1, List.of(
                bar((p, h) -> p[0] == h[0] && p[1] < h[1]),
                new Model.Rule(false, (p, h) -> p[0] * h[1] - 3, (p, h) -> !(p[0] < 0)),
                new Model.Rule(false, (p, h) -> 2, ALWAYS))),
        new Model.Known("trait k;cost 9999*9999*p.k;bar h.k<=-5 or p.k!=p.k;", 0, -1, List.of(
            new Model.Rule(false, (p, h) -> 9999 * 9999 * p[0], ALWAYS), bar((p, h) -> h[0] <= -5))),
        new Model.Known("trait x trait y;", 1, 8, List.of()),
        new Model.Known("trait x;trait y;cost h.z;bar p.y==1;", 4, 23, List.of()),
        new Model.Known("cost 3-p.x*2;trait x;", 1, 13, List.of()),
        new Model.Known("trait x;trait x;cost p.q;", 3, 14, List.of()),
        new Model.Known("trait x;cost 3-p.x*h.x;", 0, -1, List.of(
            new Model.Rule(false, (p, h) -> 3 - p[0] * h[0], ALWAYS))));

    /** A look at all of five FAMILIES, and the longest call ahead of it. */
    private static final int LAST_CALLS = 150;

    private final Random random;
    private final HostYear x = new HostYear();
    private final Model m = new Model();
    private final int mostFamilies;
    private int calls = 0;

    private RunsTest(int seed, int mostFamilies) {
        this.random = new Random(seed);
        this.mostFamilies = mostFamilies;
    }

    private static Model.Rule bar(BiFunction<int[], int[], Boolean> cond) {
        return new Model.Rule(true, (p, h) -> 0, cond);
    }

    public static void main(String[] args) {
        for (int seed = 0; seed < 3000; seed++) {
            RunsTest run = new RunsTest(seed, 1 + seed % 5);
            run.begin();
            while (run.calls < Calls.MOST - LAST_CALLS) {
                run.call();
            }
            run.look();
            Check.due("calls on one office are too many", run.calls > Calls.MOST, false);
        }
        Check.end("RunsTest");
    }

    private void due(String call, int got, int want) {
        calls++;
        Check.due(call, got, want);
    }

    /** Facts with which some can go, so that the runs are not all about nobody. */
    private void begin() {
        look();
        for (int f = 0; f < mostFamilies; f++) {
            due("family()", x.family(), m.family());
        }
        for (int f = 0; f < mostFamilies; f++) {
            tell(f, 0, random.nextInt(8) == 0 ? 0 : 1);
            tell(f, 1, random.nextInt(8) == 0 ? 0 : 1);
            tell(f, 2, random.nextInt(3) == 0 ? 1 : 0);
            tell(f, 3, random.nextInt(3) == 0 ? 1 : 0);
            tell(f, 5, random.nextInt(1001));
            tell(f, 10, random.nextInt(9) - 4);
            tell(f, 11, random.nextInt(9) - 4);
            for (int h = 0; h < mostFamilies; h++) {
                tell(f, 20 + h, random.nextBoolean() ? random.nextInt(4) : random.nextInt(2));
            }
        }
    }

    private void tell(int f, int what, int v) {
        due("tell " + f + " " + what + " " + v, x.tell(f, what, v), m.tell(f, what, v));
    }

    private int anyFamily() {
        return random.nextInt(12) == 0 ? random.nextInt(16) - 2 : random.nextInt(mostFamilies);
    }

    private int anySlot() {
        return random.nextInt(12) == 0 ? random.nextInt(5) - 2 : random.nextInt(2);
    }

    private int anyDay() {
        int[] days = {-1, 0, 100000, 100001, Integer.MIN_VALUE, Integer.MAX_VALUE};
        return random.nextInt(15) == 0 ? days[random.nextInt(6)] : random.nextInt(m.clock + 2);
    }

    private int anyWhat() {
        int[] odd = {-1, 6, 9, 18, 19, 32, Integer.MIN_VALUE, Integer.MAX_VALUE, 20 + m.families};
        if (random.nextInt(12) == 0) {
            return odd[random.nextInt(odd.length)];
        }
        int[] plain = {0, 1, 2, 3, 4, 5, 10, 11, 17, 20, 21, 22, 23};
        return plain[random.nextInt(plain.length)];
    }

    private int anyValue(int what) {
        int[] odd = {-1, 2, 9, 10, 999, 1000, 1001, -999, -1000, 100000, 100001, Integer.MIN_VALUE};
        if (random.nextInt(12) == 0) {
            return odd[random.nextInt(odd.length)];
        }
        if (what <= 3) {
            return random.nextInt(4) == 0 ? 0 : 1;
        }
        return what == 4 ? random.nextInt(m.term + 2) : what == 5 ? random.nextInt(1001) : random.nextInt(6);
    }

    private void call() {
        int a = anyFamily();
        int b = anyFamily();
        int slot = anySlot();
        int day = anyDay();
        switch (random.nextInt(22)) {
            case 0 -> text();
            case 1 -> due("read", x.read(slot), m.read(slot));
            case 2 -> due("clock", x.clock(day) ? 1 : 0, m.clock(day) ? 1 : 0);
            case 3 -> due("term", x.term(day) ? 1 : 0, m.term(day) ? 1 : 0);
            case 4, 5 -> {
                int what = anyWhat();
                tell(a, what, anyValue(what));
            }
            case 6 -> {
                int what = anyWhat();
                due("known " + a + " " + what + " " + day, x.known(a, what, day), m.known(a, what, day));
            }
            case 7 -> due("why", x.why(slot, day, a, b), m.why(slot, day, a, b));
            case 8 -> due("cost", x.cost(slot, day, a, b), m.cost(slot, day, a, b));
            case 9, 10 -> due("round", x.round(slot, day), m.round(slot, day));
            case 11, 12 -> {
                due("round", x.round(0, m.clock), m.round(0, m.clock));
                due("take", x.take(), m.take());
            }
            case 13 -> due("take", x.take(), m.take());
            case 14, 15, 16 -> due("fall", x.fall(a), m.fall(a));
            case 17 -> due("close", x.close(), m.close());
            case 18 -> {
                int i = random.nextInt(8) - 1;
                due("link " + a + " " + i, x.link(a, i), m.link(a, i));
            }
            case 19 -> {
                int what = random.nextInt(9) - 1;
                due("of " + a + " " + what, x.of(a, what), m.of(a, what));
            }
            default -> {
                int i = random.nextInt(7) - 1;
                due("moved " + i, x.moved(i), m.moved(i));
                due("goes " + i, x.goes(i), m.goes(i));
                due("count " + (i + 3), x.count(i + 3), m.count(i + 3));
            }
        }
        due("place", x.place(), m.place);
        due("costs", x.costs(), m.costs());
    }

    private void text() {
        x.back(m.tape);
        Model.Known known = TEXTS.get(random.nextInt(TEXTS.size()));
        Check.lay(x, known.text());
        m.lay(known);
        calls += 3 + known.text().length() / 20;
        int slot = anySlot();
        due("read <" + known.text() + ">", x.read(slot), m.read(slot));
    }

    /** All that can be asked without a change. */
    private void look() {
        for (int what = -1; what <= 9; what++) {
            due("count " + what, x.count(what), m.count(what));
        }
        for (int f = -1; f <= m.families; f++) {
            due("goes " + f, x.goes(f), m.goes(f));
            due("moved " + f, x.moved(f), m.moved(f));
            for (int what = -1; what <= 6; what++) {
                due("of " + f + " " + what, x.of(f, what), m.of(f, what));
            }
            for (int i = -1; i <= m.families; i++) {
                due("link " + f + " " + i, x.link(f, i), m.link(f, i));
            }
        }
    }
}
