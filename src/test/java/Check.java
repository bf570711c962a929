import java.nio.charset.StandardCharsets;

/** Counts the answers that are not as due, and lays texts on a tape. */
final class Check {
    private static final int SHOWN = 40;
    private static int made = 0;
    private static int wrong = 0;

    private Check() {
    }

    static void due(String call, long got, long want) {
        made++;
        if (got != want) {
            wrong++;
            if (wrong <= SHOWN) {
                System.out.println(call + " answered " + got + ", due is " + want);
            }
        }
    }

    static void due(String call, boolean got, boolean want) {
        due(call, got ? 1 : 0, want ? 1 : 0);
    }

    static void dueGoes(String title, HostYear x, int... homes) {
        for (int p = 0; p < homes.length; p++) {
            due(title + ": goes(" + p + ")", x.goes(p), homes[p]);
        }
    }

    static void dueYear(String title, HostYear x, int... homes) {
        for (int p = 0; p < homes.length; p++) {
            due(title + ": of(" + p + ", 0)", x.of(p, 0), homes[p]);
        }
    }

    static void dueRead(String text, int fault, int place) {
        HostYear x = new HostYear();
        due("read of <" + text + ">", read(x, 0, text), fault);
        due("place of <" + text + ">", x.place(), place);
    }

    static void end(String name) {
        System.out.println(name + ": " + made + " answers, " + wrong + " of them not as due");
        if (wrong != 0 || made == 0) {
            System.exit(1);
        }
    }

    /** Feeds a text: the last twenty bytes are filled with blanks, which go back again. */
    static void lay(HostYear x, String text) {
        byte[] bytes = text.getBytes(StandardCharsets.ISO_8859_1);
        int rest = (20 - bytes.length % 20) % 20;
        for (int i = 0; i < bytes.length; i += 20) {
            x.feed(four(bytes, i), four(bytes, i + 4), four(bytes, i + 8), four(bytes, i + 12), four(bytes, i + 16));
        }
        x.back(rest);
    }

    static int read(HostYear x, int slot, String text) {
        lay(x, text);
        return x.read(slot);
    }

    static int four(byte[] bytes, int from) {
        int word = 0;
        for (int i = from; i < from + 4; i++) {
            word = word << 8 | (i < bytes.length ? bytes[i] & 255 : ' ');
        }
        return word;
    }
}
