/** Promises 31 to 33: acts, the trace, kinds. */
public final class ActsTest {
    private final Check check = new Check("acts");

    public static void main(String[] args) {
        ActsTest t = new ActsTest();
        t.acts();
        t.wraps();
        t.wrong();
        t.trace();
        t.taken();
        t.check.end();
    }

    /** Holder k + 1 is of kind k; its number and its family are seen in what it does. */
    private static WhoRules ofAllKinds() {
        WhoRules x = new WhoRules();
        x.holder(0, 0);
        for (int kind = 0; kind < 6; kind++) {
            x.holder(kind, 3);
        }
        return x;
    }

    private void ran(WhoRules x, int holder, int act, int due, int... bodies) {
        check.due("act " + act + " of " + holder, x.act(holder, act, 5), due);
        check.due("how many ran", x.count(9), bodies.length);
        for (int i = 0; i < bodies.length; i++) {
            check.due("body " + i, x.trace(i), bodies[i]);
        }
        check.due("behind the trace", x.trace(bodies.length), -1);
        check.due("ahead of the trace", x.trace(-1), -1);
    }

    private void acts() {
        WhoRules x = ofAllKinds();
        ran(x, 1, 0, 6, 10);
        ran(x, 1, 1, 12, 11, 10);
        ran(x, 1, 2, 12, 12, 11, 10);
        ran(x, 2, 0, 7 ^ 6, 20, 10);
        ran(x, 2, 1, 2, 11, 20, 10);
        ran(x, 2, 2, 2 + (3 ^ 6), 21, 12, 11, 20, 10, 20, 10);
        ran(x, 3, 0, 8, 10);
        ran(x, 3, 1, (15 + 3) * 2, 30, 11, 10);
        ran(x, 3, 2, 36, 12, 30, 11, 10);
        ran(x, 4, 0, -9, 40, 10);
        ran(x, 4, 1, -(15 + 4) * 2 + (3 + 4), 41, 30, 11, 40, 10, 10);
        ran(x, 4, 2, -38 + 7 - 3, 12, 41, 30, 11, 40, 10, 10);
        ran(x, 5, 0, 10, 10);
        ran(x, 5, 1, 20, 11, 10);
        ran(x, 5, 2, 0, 50, 11, 10, 12, 11, 10);
        ran(x, 6, 0, 15, 60, 10);
        ran(x, 6, 1, 30, 11, 60, 10);
        ran(x, 6, 2, 6, 61, 50, 11, 60, 10, 12, 11, 60, 10);
    }

    private void wraps() {
        WhoRules x = ofAllKinds();
        check.due("x + i", x.act(1, 0, Integer.MAX_VALUE), Integer.MIN_VALUE);
        check.due("times 2", x.act(1, 1, 1 << 30), 2 + Integer.MIN_VALUE);
        check.due("times 3", x.act(3, 1, 1 << 30), (3 * (1 << 30) + 3) * 2);
        check.due("minus", x.act(4, 0, Integer.MIN_VALUE - 4), Integer.MIN_VALUE);
        check.due("family 0 of kin", kinOfFamily(0).act(0, 2, 1), -6);
        check.due("family 2 of kin", kinOfFamily(2).act(0, 2, 1), -6 + 2 - 2);
    }

    private static WhoRules kinOfFamily(int family) {
        WhoRules x = new WhoRules();
        x.holder(3, family);
        return x;
    }

    private void wrong() {
        WhoRules x = ofAllKinds();
        int[][] wrong = {{7, 0}, {-1, 0}, {1, 3}, {1, -1}, {99, 99}};
        for (int[] w : wrong) {
            x.act(1, 2, 5);
            check.due("a wrong act", x.act(w[0], w[1], 5), 0);
            check.due("no trace then", x.trace(0), -1);
            check.due("none ran", x.count(9), 0);
        }
    }

    private void trace() {
        WhoRules x = ofAllKinds();
        check.due("none at first", x.trace(0), -1);
        x.act(6, 2, 5);
        x.act(1, 0, 5);
        check.due("of the latest", x.trace(0), 10);
        check.due("of the latest alone", x.trace(1), -1);
        check.due("far behind", x.trace(20), -1);
        check.due("far behind", x.trace(21), -1);
        check.due("far behind", x.trace(Integer.MAX_VALUE), -1);
        check.due("far ahead", x.trace(Integer.MIN_VALUE), -1);
    }

    private void taken() {
        WhoRules x = ofAllKinds();
        int[][] above = {{0}, {1, 0}, {2, 0}, {3, 2, 0}, {4, 0}, {5, 4, 0}};
        for (int kind = 0; kind < 6; kind++) {
            for (int k = 0; k < 6; k++) {
                int due = -12;
                for (int a : above[kind]) {
                    due = a == k ? kind : due;
                }
                check.due("kind " + kind + " taken for " + k, x.taken(kind + 1, k), due);
            }
        }
        check.due("no holder", x.taken(7, 0), -11);
        check.due("no holder", x.taken(-1, 5), -11);
        check.due("no kind", x.taken(0, 6), -2);
        check.due("no kind", x.taken(0, -1), -2);
        check.due("bad ahead of nothing", x.taken(7, 6), -2);
    }
}
