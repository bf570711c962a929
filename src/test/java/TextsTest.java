import java.util.ArrayList;
import java.util.HashSet;
import java.util.LinkedHashSet;
import java.util.List;
import java.util.Map;
import java.util.Random;
import java.util.Set;
import java.util.regex.Matcher;
import java.util.regex.Pattern;

/**
 * Promise 4 and 5 against a second way: the document's grammar as it stands, asked by Earley's
 * method whether any text goes on with a TOKEN. Promises 11 and 12 against trees that were
 * made together with their texts.
 */
public final class TextsTest {
    private static final String[] WORDS = {"trait", "bar", "cost", "if", "or", "and", "not", "p", "h"};
    private static final Pattern TOKEN =
        Pattern.compile("[a-z][a-z0-9]*|[0-9]+|==|!=|<=|[;.()\\[\\]+*<-]");

    private static final Map<String, String[]> GRAMMAR = Map.ofEntries(
        Map.entry("TEXT", new String[] {"TRAITS RULES"}),
        Map.entry("TRAITS", new String[] {"", "TRAITS trait NAME ;"}),
        Map.entry("RULES", new String[] {"", "RULES RULE"}),
        Map.entry("RULE", new String[] {"bar COND ;", "cost E ;", "cost E if COND ;"}),
        Map.entry("COND", new String[] {"ALL", "COND or ALL"}),
        Map.entry("ALL", new String[] {"LIT", "ALL and LIT"}),
        Map.entry("LIT", new String[] {"not LIT", "[ COND ]", "E REL E"}),
        Map.entry("REL", new String[] {"==", "!=", "<", "<="}),
        Map.entry("E", new String[] {"SUM", "- SUM"}),
        Map.entry("SUM", new String[] {"PART", "SUM + PART", "SUM - PART"}),
        Map.entry("PART", new String[] {"UNIT", "PART * UNIT"}),
        Map.entry("UNIT", new String[] {"NUMBER", "p . NAME", "h . NAME", "( E )"}));

    private static final Random RANDOM = new Random(20261116);
    private static final int[] FAULTS_SEEN = new int[5];

    private record Token(String kind, String text, int place) { }

    private record Item(String left, String[] right, int dot, int origin) {
        String next() {
            return dot < right.length ? right[dot] : null;
        }

        String key() {
            return left + String.join(" ", right) + "/" + dot + "/" + origin;
        }
    }

    public static void main(String[] args) {
        for (int i = 0; i < 12000; i++) {
            compare(mutate(valid(RANDOM.nextInt(4), RANDOM.nextInt(5), 1 + RANDOM.nextInt(4))));
        }
        for (int i = 0; i < 3000; i++) {
            compare(soup(RANDOM.nextInt(30)));
        }
        for (int i = 0; i < 400; i++) {
            compare(mutate(valid(6 + RANDOM.nextInt(4), 17 + RANDOM.nextInt(6), 2)));
            compare(mutate(deep(7 + RANDOM.nextInt(3))));
        }
        for (int tokens = 596; tokens <= 604; tokens++) {
            for (int i = 0; i < 12; i++) {
                compare(mutate(longText(tokens)));
                compare(longText(tokens));
            }
        }
        for (int fault = 0; fault <= 4; fault++) {
            Check.due("texts with fault " + fault + " are few", FAULTS_SEEN[fault] < 50, false);
        }
        for (int i = 0; i < 3000; i++) {
            compareValues();
        }
        Check.end("TextsTest");
    }

    private static void compare(String text) {
        if (text.length() > 3000) {
            return;
        }
        int[] due = faultOf(text);
        FAULTS_SEEN[due[0]]++;
        HostYear x = new HostYear();
        int slot = RANDOM.nextInt(2);
        Check.read(x, slot, "cost 1; cost 2; cost 3;");
        Check.lay(x, text);
        Check.due("count(8) of <" + text + ">", x.count(8), text.length());
        Check.due("read of <" + text + ">", x.read(slot), due[0]);
        Check.due("place of <" + text + ">", x.place(), due[1]);
        Check.due("count(8) behind read", x.count(8), 0);
        Check.due("rules of <" + text + ">", x.count(6 + slot), due[0] == 0 ? due[2] : 3);
    }

    // ---- the second way to a text's FAULT

    private static List<Token> tokensOf(String text) {
        List<Token> tokens = new ArrayList<>();
        Matcher matcher = TOKEN.matcher(text);
        int at = 0;
        while (at < text.length()) {
            if ("\t\n\r ".indexOf(text.charAt(at)) >= 0) {
                at++;
            } else if (!matcher.region(at, text.length()).lookingAt()) {
                tokens.add(new Token("?", "", at));
                return tokens;
            } else {
                tokens.add(new Token(kindOf(matcher.group()), matcher.group(), at));
                at = matcher.end();
            }
        }
        tokens.add(new Token("END", "", text.length()));
        return tokens;
    }

    private static String kindOf(String token) {
        if (List.of(WORDS).contains(token)) {
            return token;
        }
        if (Character.isDigit(token.charAt(0))) {
            return token.length() > 4 ? "?" : "NUMBER";
        }
        if (Character.isLetter(token.charAt(0))) {
            return token.length() > 8 ? "?" : "NAME";
        }
        return token;
    }

    /** The FAULT, its place, and how many RULES there are. */
    private static int[] faultOf(String text) {
        List<Token> tokens = tokensOf(text);
        int syntax = firstThatNothingGoesOnWith(tokens);
        int room = firstWithoutRoom(tokens);
        if (syntax < tokens.size() && syntax <= room) {
            return new int[] {1, tokens.get(syntax).place, 0};
        }
        if (room < tokens.size()) {
            return new int[] {2, tokens.get(room).place, 0};
        }
        return lateFault(tokens);
    }

    private static int[] lateFault(List<Token> tokens) {
        Set<String> told = new HashSet<>();
        int rules = 0;
        for (int i = 0; i < tokens.size(); i++) {
            Token token = tokens.get(i);
            boolean isTelling = i > 0 && tokens.get(i - 1).kind.equals("trait");
            if (token.kind.equals("bar") || token.kind.equals("cost")) {
                rules++;
            }
            if (token.kind.equals("NAME") && isTelling && !told.add(token.text)) {
                return new int[] {3, token.place, 0};
            }
            if (token.kind.equals("NAME") && !isTelling && !told.contains(token.text)) {
                return new int[] {4, token.place, 0};
            }
        }
        return new int[] {0, -1, rules};
    }

    private static int firstWithoutRoom(List<Token> tokens) {
        List<String> open = new ArrayList<>();
        int traits = 0;
        int rules = 0;
        for (int i = 0; i < tokens.size(); i++) {
            String kind = tokens.get(i).kind;
            traits += kind.equals("trait") ? 1 : 0;
            rules += kind.equals("bar") || kind.equals("cost") ? 1 : 0;
            switch (kind) {
                case "(", "[", "not" -> open.add(kind);
                case ")" -> dropLast(open);
                case "]" -> {
                    dropNots(open);
                    dropLast(open);
                }
                case "and", "or", ";" -> dropNots(open);
                default -> { }
            }
            boolean isTooMany = i >= 600 && !kind.equals("END") && !kind.equals("?");
            if (isTooMany || traits > 8 || rules > 20 || open.size() > 8) {
                return i;
            }
        }
        return tokens.size();
    }

    private static void dropLast(List<String> open) {
        if (!open.isEmpty()) {
            open.remove(open.size() - 1);
        }
    }

    private static void dropNots(List<String> open) {
        while (!open.isEmpty() && open.get(open.size() - 1).equals("not")) {
            dropLast(open);
        }
    }

    private static int firstThatNothingGoesOnWith(List<Token> tokens) {
        List<List<Item>> sets = new ArrayList<>();
        List<Item> seed = new ArrayList<>();
        seed.add(new Item("START", new String[] {"TEXT", "END"}, 0, 0));
        sets.add(seed);
        for (int i = 0; i < tokens.size(); i++) {
            complete(sets, i);
            List<Item> next = new ArrayList<>();
            for (Item item : sets.get(i)) {
                if (tokens.get(i).kind.equals(item.next())) {
                    next.add(new Item(item.left, item.right, item.dot + 1, item.origin));
                }
            }
            if (next.isEmpty()) {
                return i;
            }
            sets.add(next);
        }
        return tokens.size();
    }

    private static void complete(List<List<Item>> sets, int at) {
        List<Item> set = sets.get(at);
        Set<String> keys = new LinkedHashSet<>();
        for (Item item : set) {
            keys.add(item.key());
        }
        // Once more as long as it grows, which is plain, and right where a kind may be empty.
        int size = -1;
        while (size != set.size()) {
            size = set.size();
            for (int i = 0; i < set.size(); i++) {
                Item item = set.get(i);
                if (item.next() == null) {
                    for (Item waiting : List.copyOf(sets.get(item.origin))) {
                        if (item.left.equals(waiting.next())) {
                            add(set, keys, new Item(waiting.left, waiting.right, waiting.dot + 1, waiting.origin));
                        }
                    }
                } else if (GRAMMAR.containsKey(item.next())) {
                    for (String right : GRAMMAR.get(item.next())) {
                        String[] parts = right.isEmpty() ? new String[0] : right.split(" ");
                        add(set, keys, new Item(item.next(), parts, 0, at));
                    }
                }
            }
        }
    }

    private static void add(List<Item> set, Set<String> keys, Item item) {
        if (keys.add(item.key())) {
            set.add(item);
        }
    }

    // ---- texts by chance

    private static String valid(int traits, int rules, int depth) {
        StringBuilder text = new StringBuilder();
        for (int i = 0; i < traits; i++) {
            int told = RANDOM.nextInt(20) == 0 ? 0 : i;
            text.append("trait ").append(name(told)).append(";").append(blank());
        }
        for (int i = 0; i < rules; i++) {
            if (RANDOM.nextBoolean()) {
                text.append("bar ").append(cond(traits, depth));
            } else {
                text.append("cost ").append(sum(traits, depth));
                text.append(RANDOM.nextBoolean() ? " if " + cond(traits, depth) : "");
            }
            text.append(";").append(blank());
        }
        return text.toString();
    }

    private static String name(int i) {
        String[] names = {"a", "b2", "longname", "pp", "hh", "trait1", "nota", "x", "y", "zz"};
        return RANDOM.nextInt(40) == 0 ? "other" : names[i % names.length];
    }

    private static String blank() {
        String[] blanks = {"", "", " ", "\n", "\t", "\r", "  "};
        return blanks[RANDOM.nextInt(blanks.length)];
    }

    private static String cond(int traits, int depth) {
        StringBuilder text = new StringBuilder(lit(traits, depth));
        while (RANDOM.nextInt(3) == 0) {
            text.append(RANDOM.nextBoolean() ? " and " : " or ").append(lit(traits, depth));
        }
        return text.toString();
    }

    private static String lit(int traits, int depth) {
        if (depth > 0 && RANDOM.nextInt(3) == 0) {
            return "not " + lit(traits, depth - 1);
        }
        if (depth > 0 && RANDOM.nextInt(3) == 0) {
            return "[" + blank() + cond(traits, depth - 1) + blank() + "]";
        }
        String[] relations = {"==", "!=", "<", "<="};
        return sum(traits, depth) + blank() + relations[RANDOM.nextInt(4)] + blank() + sum(traits, depth);
    }

    private static String sum(int traits, int depth) {
        StringBuilder text = new StringBuilder(RANDOM.nextInt(4) == 0 ? "-" : "").append(part(traits, depth));
        while (RANDOM.nextInt(3) == 0) {
            text.append(blank()).append(RANDOM.nextBoolean() ? "+" : "-").append(blank()).append(part(traits, depth));
        }
        return text.toString();
    }

    private static String part(int traits, int depth) {
        StringBuilder text = new StringBuilder(unit(traits, depth));
        while (RANDOM.nextInt(4) == 0) {
            text.append(blank()).append("*").append(blank()).append(unit(traits, depth));
        }
        return text.toString();
    }

    private static String unit(int traits, int depth) {
        if (depth > 0 && RANDOM.nextInt(3) == 0) {
            return "(" + blank() + sum(traits, depth - 1) + blank() + ")";
        }
        if (traits > 0 && RANDOM.nextBoolean()) {
            return (RANDOM.nextBoolean() ? "p" : "h") + blank() + "." + blank() + name(RANDOM.nextInt(traits));
        }
        return String.valueOf(RANDOM.nextInt(10000));
    }

    private static String deep(int depth) {
        StringBuilder head = new StringBuilder("cost 1 if ");
        StringBuilder tail = new StringBuilder();
        int outer = RANDOM.nextInt(depth + 1);
        for (int i = 0; i < outer; i++) {
            boolean isNot = RANDOM.nextBoolean();
            head.append(isNot ? "not " : "[").append(!isNot && RANDOM.nextBoolean() ? "not 1 == 1 and " : "");
            tail.insert(0, isNot ? "" : "]");
        }
        head.append("(".repeat(depth - outer)).append("1").append(")".repeat(depth - outer));
        return head + "<=2" + tail + ";";
    }

    /** Some RULES with just so many TOKENS together. */
    private static String longText(int tokens) {
        int rules = 1 + RANDOM.nextInt(20);
        int pairs = (tokens - 3 * rules) / 2;
        boolean isOdd = (tokens - 3 * rules) % 2 == 1;
        StringBuilder text = new StringBuilder();
        for (int i = 0; i < rules; i++) {
            int share = i == rules - 1 ? pairs : RANDOM.nextInt(pairs / (rules - i) + 1);
            pairs -= share;
            text.append(i == 0 && isOdd ? "cost -1" : "cost 1").append("+1".repeat(share)).append(";");
        }
        return text.toString();
    }

    private static String soup(int tokens) {
        String[] all = {"trait", "bar", "cost", "if", "or", "and", "not", "p.a", "h.a", "a", "1", "9999", ";", ".",
            "(", ")", "[", "]", "+", "-", "*", "==", "!=", "<", "<=", "12345", "abcdefghi", "=", "!", ">", "A",
            "trait a;", "cost 1", "bar 1==1", "cost p.a;", "\u00ff", "\u0000"};
        StringBuilder text = new StringBuilder(RANDOM.nextBoolean() ? "trait a;" : "");
        for (int i = 0; i < tokens; i++) {
            text.append(all[RANDOM.nextInt(all.length)]).append(blank());
        }
        return text.toString();
    }

    private static String mutate(String text) {
        StringBuilder changed = new StringBuilder(text);
        int changes = RANDOM.nextInt(3);
        String bytes = "abph019;.()[]+-*=!< \n>A,\u00e9";
        for (int i = 0; i < changes && changed.length() > 0; i++) {
            int at = RANDOM.nextInt(changed.length());
            char other = bytes.charAt(RANDOM.nextInt(bytes.length()));
            switch (RANDOM.nextInt(4)) {
                case 0 -> changed.deleteCharAt(at);
                case 1 -> changed.insert(at, other);
                case 2 -> changed.setCharAt(at, other);
                default -> changed.setLength(at);
            }
        }
        return changed.toString();
    }

    // ---- values

    private interface Tree {
        int value(int[] p, int[] h);
    }

    private static String lastText;

    private static void compareValues() {
        int[] p = new int[8];
        int[] h = new int[8];
        HostYear x = new HostYear();
        x.family();
        x.family();
        x.tell(0, 0, 1);
        x.tell(1, 1, 1);
        int wish = 1 + RANDOM.nextInt(9);
        x.tell(0, 21, wish);
        StringBuilder text = new StringBuilder();
        for (int k = 0; k < 8; k++) {
            p[k] = RANDOM.nextBoolean() ? RANDOM.nextInt(7) - 3 : RANDOM.nextInt(1999) - 999;
            h[k] = RANDOM.nextInt(7) - 3;
            x.tell(0, 10 + k, p[k]);
            x.tell(1, 10 + k, h[k]);
            text.append("trait t").append(k).append(";");
        }
        int rules = RANDOM.nextInt(7);
        int why = 0;
        int cost = wish;
        for (int k = 0; k < rules; k++) {
            if (RANDOM.nextInt(4) == 0) {
                Tree cond = condTree(2);
                text.append("bar ").append(lastText).append(";");
                why = why == 0 && cond.value(p, h) != 0 ? 10 + k : why;
                continue;
            }
            Tree sum = sumTree(2);
            text.append("cost ").append(lastText);
            boolean counts = true;
            if (RANDOM.nextBoolean()) {
                Tree cond = condTree(2);
                text.append(" if ").append(lastText);
                counts = cond.value(p, h) != 0;
            }
            text.append(";");
            cost += counts ? sum.value(p, h) : 0;
        }
        Check.due("read of <" + text + ">", Check.read(x, 1, text.toString()), tokensOf(text.toString()).size() > 601 ? 2 : 0);
        if (x.place() == -1) {
            Check.due("why by <" + text + ">", x.why(1, 0, 0, 1), why);
            int due = why != 0 ? -1 : Math.min(10000, Math.max(0, cost));
            Check.due("cost by <" + text + ">", x.cost(1, 0, 0, 1), due);
        }
    }

    private static Tree condTree(int depth) {
        Tree left = allTree(depth);
        StringBuilder text = new StringBuilder(lastText);
        while (RANDOM.nextInt(3) == 0) {
            Tree before = left;
            Tree right = allTree(depth);
            left = (p, h) -> before.value(p, h) != 0 || right.value(p, h) != 0 ? 1 : 0;
            text.append(" or ").append(lastText);
        }
        lastText = text.toString();
        return left;
    }

    private static Tree allTree(int depth) {
        Tree left = litTree(depth);
        StringBuilder text = new StringBuilder(lastText);
        while (RANDOM.nextInt(3) == 0) {
            Tree before = left;
            Tree right = litTree(depth);
            left = (p, h) -> before.value(p, h) != 0 && right.value(p, h) != 0 ? 1 : 0;
            text.append(" and ").append(lastText);
        }
        lastText = text.toString();
        return left;
    }

    private static Tree litTree(int depth) {
        int choice = RANDOM.nextInt(4);
        if (depth > 0 && choice == 0) {
            Tree inner = litTree(depth - 1);
            lastText = "not " + lastText;
            return (p, h) -> 1 - inner.value(p, h);
        }
        if (depth > 0 && choice == 1) {
            Tree inner = condTree(depth - 1);
            lastText = "[" + lastText + "]";
            return inner;
        }
        Tree left = sumTree(depth);
        String text = lastText;
        Tree right = sumTree(depth);
        int relation = RANDOM.nextInt(4);
        lastText = text + new String[] {"==", "!=", "<", "<="}[relation] + lastText;
        return (p, h) -> {
            int x = left.value(p, h);
            int y = right.value(p, h);
            boolean[] holds = {x == y, x != y, x < y, x <= y};
            return holds[relation] ? 1 : 0;
        };
    }

    private static Tree sumTree(int depth) {
        boolean isNegative = RANDOM.nextInt(3) == 0;
        Tree first = partTree(depth);
        Tree left = isNegative ? (p, h) -> -first.value(p, h) : first;
        StringBuilder text = new StringBuilder(isNegative ? "-" : "").append(lastText);
        while (RANDOM.nextInt(3) == 0) {
            Tree before = left;
            boolean adds = RANDOM.nextBoolean();
            Tree right = partTree(depth);
            left = (p, h) -> adds ? before.value(p, h) + right.value(p, h) : before.value(p, h) - right.value(p, h);
            text.append(adds ? "+" : "-").append(lastText);
        }
        lastText = text.toString();
        return left;
    }

    private static Tree partTree(int depth) {
        Tree left = unitTree(depth);
        StringBuilder text = new StringBuilder(lastText);
        while (RANDOM.nextInt(4) == 0) {
            Tree before = left;
            Tree right = unitTree(depth);
            left = (p, h) -> before.value(p, h) * right.value(p, h);
            text.append(" * ").append(lastText);
        }
        lastText = text.toString();
        return left;
    }

    private static Tree unitTree(int depth) {
        int choice = RANDOM.nextInt(5);
        if (depth > 0 && choice == 0) {
            Tree inner = sumTree(depth - 1);
            lastText = "(" + lastText + ")";
            return inner;
        }
        int k = RANDOM.nextInt(8);
        if (choice == 1) {
            lastText = "p.t" + k;
            return (p, h) -> p[k];
        }
        if (choice == 2) {
            lastText = "h.t" + k;
            return (p, h) -> h[k];
        }
        int number = choice == 3 ? RANDOM.nextInt(5) : RANDOM.nextInt(10000);
        lastText = String.valueOf(number);
        return (p, h) -> number;
    }
}
