/** Offices in the state from which a test begins. */
final class Given {
    private Given() {
    }

    static HostYear families(int n) {
        HostYear x = new HostYear();
        for (int f = 0; f < n; f++) {
            x.family();
        }
        return x;
    }

    /** n FAMILIES that all send one and take one in, with the WISHES p, h, v, p, h, v .. */
    static HostYear wishing(int n, int... wishes) {
        HostYear x = families(n);
        for (int f = 0; f < n; f++) {
            x.tell(f, 0, 1);
            x.tell(f, 1, 1);
        }
        for (int i = 0; i + 2 < wishes.length; i += 3) {
            x.tell(wishes[i], 20 + wishes[i + 1], wishes[i + 2]);
        }
        return x;
    }

    /** PUPIL 0 may go to HOME 1, for which it has the WISH 1, by a text in both slots. */
    static HostYear pairBy(String text) {
        HostYear x = wishing(2, 0, 1, 1);
        for (int slot = 0; slot <= 1; slot++) {
            Check.due("read(" + slot + ") of <" + text + ">", Check.read(x, slot, text), 0);
        }
        return x;
    }
}
