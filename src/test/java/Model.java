import java.util.ArrayList;
import java.util.Arrays;
import java.util.List;
import java.util.function.BiFunction;

/** The document once more, in its plainest form: all PLACES are tried, one by one. */
final class Model {
    static final int NONE = -1;

    /** A RULE of a known text; the rows are the eight TRAITS of the two FAMILIES. */
    record Rule(boolean isBar, BiFunction<int[], int[], Integer> e, BiFunction<int[], int[], Boolean> cond) { }

    /** A text whose FAULT and RULES were found by hand. */
    record Known(String text, int fault, int place, List<Rule> rules) { }

    private record Fact(int f, int what, int v, int day) { }

    int families = 0;
    final List<Fact> facts = new ArrayList<>();
    int clock = 0;
    int term = 0;
    int tape = 0;
    int years = 0;
    int place = NONE;
    Known laid = null;
    final List<List<Rule>> slots = new ArrayList<>(List.of(List.of(), List.of()));
    int[] hand = null;
    int handCost = 0;
    int[] year = nobody();
    boolean began = false;
    boolean[] out = new boolean[12];
    List<Integer> moved = new ArrayList<>();
    int[] debt = new int[12];
    int[] given = new int[12];
    int[] money = new int[12];

    private static int[] nobody() {
        int[] row = new int[12];
        Arrays.fill(row, NONE);
        return row;
    }

    boolean isFamily(int f) {
        return 0 <= f && f < families;
    }

    boolean isDay(int day) {
        return 0 <= day && day <= 100000;
    }

    int family() {
        return families == 12 ? NONE : families++;
    }

    boolean clock(int day) {
        if (day < clock || day > 100000) {
            return false;
        }
        clock = day;
        return true;
    }

    boolean term(int day) {
        if (!isDay(day)) {
            return false;
        }
        term = day;
        return true;
    }

    int tell(int f, int what, int v) {
        int low = what >= 10 && what <= 17 ? -999 : 0;
        int high;
        if (what >= 0 && what <= 3) {
            high = 1;
        } else if (what == 4) {
            high = 100000;
        } else if (what == 5) {
            high = 1000;
        } else if (what >= 10 && what <= 17) {
            high = 999;
        } else if (what >= 20 && isFamily(what - 20)) {
            high = 9;
        } else {
            return NONE;
        }
        if (facts.size() == 400 || !isFamily(f) || v < low || v > high) {
            return NONE;
        }
        facts.add(new Fact(f, what, v, clock));
        return facts.size() - 1;
    }

    int known(int f, int what, int day) {
        int v = 0;
        if (isDay(day)) {
            for (Fact fact : facts) {
                if (fact.f == f && fact.what == what && fact.day <= day) {
                    v = fact.v;
                }
            }
        }
        return v;
    }

    private int[] traits(int f, int day) {
        int[] row = new int[8];
        for (int k = 0; k < 8; k++) {
            row[k] = known(f, 10 + k, day);
        }
        return row;
    }

    int why(int slot, int day, int p, int h) {
        if (slot < 0 || slot > 1 || !isDay(day) || !isFamily(p) || !isFamily(h)) {
            return NONE;
        }
        if (p == h) {
            return 1;
        }
        if (known(p, 0, day) == 0) {
            return 2;
        }
        if (known(h, 1, day) == 0) {
            return 3;
        }
        if (known(p, 20 + h, day) == 0) {
            return 4;
        }
        if (known(p, 4, day) > term) {
            return 5;
        }
        List<Rule> rules = slots.get(slot);
        for (int k = 0; k < rules.size(); k++) {
            if (rules.get(k).isBar && rules.get(k).cond.apply(traits(p, day), traits(h, day))) {
                return 10 + k;
            }
        }
        return 0;
    }

    int cost(int slot, int day, int p, int h) {
        if (why(slot, day, p, h) != 0) {
            return NONE;
        }
        int sum = known(p, 20 + h, day);
        int[] ps = traits(p, day);
        int[] hs = traits(h, day);
        for (Rule rule : slots.get(slot)) {
            if (!rule.isBar && rule.cond.apply(ps, hs)) {
                sum += rule.e.apply(ps, hs);
            }
        }
        return sum < 0 ? 0 : Math.min(sum, 10000);
    }

    private boolean isClosed(int[] homes, int[][] costs, int day) {
        int[] guests = new int[12];
        for (int p = 0; p < families; p++) {
            if (homes[p] != NONE) {
                guests[homes[p]]++;
                if (costs[p][homes[p]] == NONE || guests[homes[p]] > 1) {
                    return false;
                }
            }
        }
        for (int f = 0; f < families; f++) {
            boolean goes = homes[f] != NONE;
            boolean hosts = guests[f] == 1;
            if (goes && !hosts && !(known(f, 3, day) == 1 && debt[f] == 0)) {
                return false;
            }
            if (hosts && !goes && !(known(f, 2, day) == 1 || debt[f] > 0)) {
                return false;
            }
        }
        return true;
    }

    private int[][] costs(int slot, int day) {
        int[][] costs = new int[families][families];
        for (int p = 0; p < families; p++) {
            for (int h = 0; h < families; h++) {
                costs[p][h] = cost(slot, day, p, h);
            }
        }
        return costs;
    }

    static int going(int[] homes) {
        int going = 0;
        for (int home : homes) {
            going += home == NONE ? 0 : 1;
        }
        return going;
    }

    private int together(int[] homes, int[][] costs) {
        int sum = 0;
        for (int p = 0; p < families; p++) {
            sum += homes[p] == NONE ? 0 : costs[p][homes[p]];
        }
        return sum;
    }

    /** MOVES, who stays, COST, then HOMES in order with none behind all: the least row is best. */
    private int[] keys(int[] homes, int[][] costs, int[] before) {
        int[] keys = new int[3 + families];
        for (int p = 0; p < families; p++) {
            keys[0] += before[p] != NONE && before[p] != homes[p] ? 1 : 0;
            keys[3 + p] = homes[p] == NONE ? 99 : homes[p];
        }
        keys[1] = -going(homes);
        keys[2] = together(homes, costs);
        return keys;
    }

    private int[] best(int[][] costs, int day, int[] before, boolean[] barred) {
        int[][] found = new int[2][];
        tryAll(0, nobody(), costs, day, before, barred, found);
        return found[0];
    }

    private void tryAll(int p, int[] homes, int[][] costs, int day, int[] before, boolean[] barred, int[][] found) {
        if (p == families) {
            if (isClosed(homes, costs, day)) {
                int[] keys = keys(homes, costs, before);
                if (found[0] == null || Arrays.compare(keys, found[1]) < 0) {
                    found[0] = homes.clone();
                    found[1] = keys;
                }
            }
            return;
        }
        for (int h = NONE; h < families; h++) {
            if (h == NONE || !barred[p] && costs[p][h] != NONE) {
                homes[p] = h;
                tryAll(p + 1, homes, costs, day, before, barred, found);
            }
        }
        homes[p] = NONE;
    }

    int round(int slot, int day) {
        if (slot < 0 || slot > 1 || !isDay(day)) {
            return NONE;
        }
        int[][] costs = costs(slot, day);
        hand = best(costs, day, nobody(), new boolean[12]);
        handCost = together(hand, costs);
        return going(hand);
    }

    int goes(int p) {
        return hand == null || !isFamily(p) ? NONE : hand[p];
    }

    int costs() {
        return hand == null ? NONE : handCost;
    }

    int take() {
        if (hand == null) {
            return NONE;
        }
        if (began) {
            return -2;
        }
        if (!isClosed(hand, costs(0, clock), clock)) {
            return -3;
        }
        began = true;
        year = hand.clone();
        return going(year);
    }

    int fall(int p) {
        if (!isFamily(p) || year[p] == NONE) {
            return NONE;
        }
        out[p] = true;
        int[] before = year.clone();
        before[p] = NONE;
        year = best(costs(0, clock), clock, before, out);
        moved = new ArrayList<>();
        for (int q = 0; q < families; q++) {
            if (before[q] != NONE && before[q] != year[q]) {
                moved.add(q);
            }
        }
        return moved.size();
    }

    int moved(int i) {
        return i < 0 || i >= moved.size() ? NONE : moved.get(i);
    }

    int guest(int h) {
        for (int p = 0; p < families; p++) {
            if (year[p] == h) {
                return p;
            }
        }
        return NONE;
    }

    int close() {
        int went = going(year);
        for (int f = 0; f < families; f++) {
            if (year[f] != NONE && guest(f) == NONE) {
                debt[f]++;
            } else if (year[f] == NONE && guest(f) != NONE && debt[f] > 0) {
                debt[f]--;
            } else if (year[f] == NONE && guest(f) != NONE) {
                given[f]++;
            }
            if (year[f] != NONE) {
                int price = known(year[f], 5, clock);
                money[f] -= price;
                money[year[f]] += price;
            }
        }
        years++;
        year = nobody();
        began = false;
        out = new boolean[12];
        moved = new ArrayList<>();
        return went;
    }

    int link(int p, int i) {
        if (!isFamily(p) || i < 0) {
            return NONE;
        }
        List<Integer> row = new ArrayList<>();
        for (int f = p; f != NONE && !(f == p && !row.isEmpty()); f = year[f]) {
            row.add(f);
        }
        return i < row.size() ? row.get(i) : NONE;
    }

    int of(int f, int what) {
        if (!isFamily(f)) {
            return NONE;
        }
        return switch (what) {
            case 0 -> year[f];
            case 1 -> guest(f);
            case 2 -> out[f] ? 1 : 0;
            case 3 -> debt[f];
            case 4 -> given[f];
            case 5 -> money[f];
            default -> NONE;
        };
    }

    int count(int what) {
        return switch (what) {
            case 0 -> families;
            case 1 -> facts.size();
            case 2 -> clock;
            case 3 -> term;
            case 4 -> years;
            case 5 -> going(year);
            case 6 -> slots.get(0).size();
            case 7 -> slots.get(1).size();
            case 8 -> tape;
            default -> NONE;
        };
    }

    /** A text laid on an empty tape by Check.lay. */
    void lay(Known known) {
        laid = known;
        tape = known.text.length();
    }

    int read(int slot) {
        if (slot < 0 || slot > 1) {
            return NONE;
        }
        int fault = laid == null ? 0 : laid.fault;
        place = laid == null ? NONE : laid.place;
        if (fault == 0) {
            slots.set(slot, laid == null ? List.of() : laid.rules);
        }
        laid = null;
        tape = 0;
        return fault;
    }
}
