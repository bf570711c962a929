import java.util.ArrayList;
import java.util.List;
import java.util.function.Function;

/** Calls written as "tell 0 20 1", so that the same run can be made on several offices. */
final class Calls {
    /** Behind so many calls the document promises nothing. */
    static final int MOST = 512;

    private Calls() {
    }

    static HostYear made(List<String> calls) {
        HostYear x = new HostYear();
        for (String call : calls) {
            answer(x, call);
        }
        return x;
    }

    /** What a call answers; a boolean counts 1 or 0. */
    static int answer(HostYear x, String call) {
        String[] parts = call.split(" ");
        int[] a = new int[parts.length - 1];
        for (int i = 0; i < a.length; i++) {
            a[i] = Integer.parseInt(parts[i + 1]);
        }
        return switch (parts[0]) {
            case "feed" -> x.feed(a[0], a[1], a[2], a[3], a[4]);
            case "back" -> x.back(a[0]);
            case "read" -> x.read(a[0]);
            case "place" -> x.place();
            case "family" -> x.family();
            case "clock" -> x.clock(a[0]) ? 1 : 0;
            case "term" -> x.term(a[0]) ? 1 : 0;
            case "tell" -> x.tell(a[0], a[1], a[2]);
            case "known" -> x.known(a[0], a[1], a[2]);
            case "why" -> x.why(a[0], a[1], a[2], a[3]);
            case "cost" -> x.cost(a[0], a[1], a[2], a[3]);
            case "round" -> x.round(a[0], a[1]);
            case "goes" -> x.goes(a[0]);
            case "costs" -> x.costs();
            case "take" -> x.take();
            case "fall" -> x.fall(a[0]);
            case "moved" -> x.moved(a[0]);
            case "close" -> x.close();
            case "link" -> x.link(a[0], a[1]);
            case "of" -> x.of(a[0], a[1]);
            case "count" -> x.count(a[0]);
            default -> throw new IllegalArgumentException(call);
        };
    }

    /** The calls that lay a text behind the tape. */
    static List<String> lay(String text) {
        List<String> calls = new ArrayList<>();
        StringBuilder filled = new StringBuilder(text);
        while (filled.length() % 20 != 0) {
            filled.append(' ');
        }
        for (int i = 0; i < filled.length(); i += 20) {
            StringBuilder call = new StringBuilder("feed");
            for (int k = i; k < i + 20; k += 4) {
                call.append(' ').append(four(filled, k));
            }
            calls.add(call.toString());
        }
        calls.add("back " + (filled.length() - text.length()));
        return calls;
    }

    private static int four(StringBuilder text, int from) {
        return text.charAt(from) << 24 | text.charAt(from + 1) << 16 | text.charAt(from + 2) << 8 | text.charAt(from + 3);
    }

    /** One call for each number from .. to. */
    static List<String> each(int from, int to, Function<Integer, String> call) {
        List<String> calls = new ArrayList<>();
        for (int i = from; i <= to; i++) {
            calls.add(call.apply(i));
        }
        return calls;
    }
}
