/** Promises 35 to 38: tapes, their items, what is shifted. */
public final class TapesTest {
    private static final long NO = Long.MIN_VALUE;

    private final Check check = new Check("tapes");

    public static void main(String[] args) {
        TapesTest t = new TapesTest();
        t.tape();
        t.item();
        t.read();
        t.shift();
        t.shiftOverlapping();
        t.shiftRefused();
        t.check.end();
    }

    private void tape() {
        WhoRules x = new WhoRules();
        check.due("no tape", x.tape(-1, 0, 1), -1);
        check.due("no tape", x.tape(6, 9, 99), -1);
        check.due("no sort", x.tape(0, 5, 1), -2);
        check.due("no sort", x.tape(0, -2, 1), -2);
        check.due("bad ahead of size", x.tape(0, 5, -1), -2);
        check.due("n 61", x.tape(0, 0, 61), -2);
        check.due("n -1", x.tape(0, 0, -1), -14);
        check.due("n MIN", x.tape(0, 4, Integer.MIN_VALUE), -14);
        check.due("still nothing", x.item(0, 0, 1), -11);
        check.due("n 60", x.tape(0, 3, 60), 1);
        check.due("the last item", x.item(0, 59, 7), 1);
        check.due("none behind", x.item(0, 60, 7), -13);
        check.due("the last item", x.read(0, 59), 7);
        check.due("refused", x.tape(0, 3, 61), -2);
        check.due("nothing changed", x.read(0, 59), 7);
        check.due("anew", x.tape(0, 3, 60), 1);
        check.due("all 0", x.read(0, 59), 0);
        check.due("an empty row", x.tape(0, 2, 0), 1);
        check.due("no place there", x.item(0, 0, 1), -13);
        check.due("nothing", x.tape(0, -1, 99), 1);
        check.due("nothing", x.tape(0, -1, -99), 1);
        check.due("nothing there", x.item(0, 0, 1), -11);
        check.due("the others hold nothing", x.item(5, 0, 1), -11);
    }

    private void item() {
        WhoRules x = new WhoRules();
        long[] given = {0, 1, -1, 127, 128, 255, 256, 32767, 32768, 65536, 1L << 31, 1L << 32, NO, 0x123456789ABCDEF0L};
        for (int sort = 0; sort < 5; sort++) {
            x.tape(3, sort, 2);
            for (long v : given) {
                long[] due = {(byte) v, (short) v, (int) v, v, v == 0 ? 0 : 1};
                check.due("item", x.item(3, 1, v), 1);
                check.due("sort " + sort + " of " + v, x.read(3, 1), due[sort]);
                check.due("the one beside", x.read(3, 0), 0);
            }
        }
        check.due("no tape", x.item(6, 0, 1), -1);
        check.due("no tape", x.item(-1, 0, 1), -1);
        check.due("nothing", x.item(0, -1, 1), -11);
        check.due("no place", x.item(3, 2, 1), -13);
        check.due("no place", x.item(3, -1, 1), -13);
        check.due("no place", x.item(3, Integer.MAX_VALUE, 1), -13);
    }

    private void read() {
        WhoRules x = new WhoRules();
        x.tape(1, 0, 3);
        x.item(1, 2, 5);
        check.due("item", x.read(1, 2), 5);
        check.due("no tape", x.read(6, 0), NO);
        check.due("no tape", x.read(-1, 0), NO);
        check.due("nothing", x.read(0, 0), NO);
        check.due("no place", x.read(1, 3), NO);
        check.due("no place", x.read(1, -1), NO);
        x.tape(1, -1, 0);
        check.due("nothing", x.read(1, 2), NO);
    }

    private static WhoRules counted(int n) {
        WhoRules x = new WhoRules();
        for (int tape = 0; tape < 2; tape++) {
            x.tape(tape, 2, n);
            for (int i = 0; i < n; i++) {
                x.item(tape, i, 10 * tape + i);
            }
        }
        return x;
    }

    private void rowIs(WhoRules x, int tape, int... due) {
        for (int i = 0; i < due.length; i++) {
            check.due("item " + i + " of " + tape, x.read(tape, i), due[i]);
        }
    }

    private void shift() {
        WhoRules x = counted(5);
        check.due("shift", x.shift(0, 1, 1, 3, 2), 2);
        rowIs(x, 0, 0, 1, 2, 3, 4);
        rowIs(x, 1, 10, 11, 12, 1, 2);
        check.due("none", x.shift(0, 5, 1, 5, 0), 0);
        check.due("none", x.shift(0, 0, 1, 5, 0), 0);
        check.due("all", x.shift(1, 0, 0, 0, 5), 5);
        rowIs(x, 0, 10, 11, 12, 1, 2);
    }

    private void shiftOverlapping() {
        WhoRules x = counted(6);
        check.due("up", x.shift(0, 0, 0, 2, 4), 4);
        rowIs(x, 0, 0, 1, 0, 1, 2, 3);
        check.due("down", x.shift(1, 2, 1, 0, 4), 4);
        rowIs(x, 1, 12, 13, 14, 15, 14, 15);
        check.due("in place", x.shift(1, 0, 1, 0, 6), 6);
        rowIs(x, 1, 12, 13, 14, 15, 14, 15);
    }

    private void shiftRefused() {
        WhoRules x = counted(4);
        x.tape(2, 3, 4);
        check.due("no tape", x.shift(-1, 0, 0, 0, 1), -1);
        check.due("no tape", x.shift(0, 0, 6, 0, 1), -1);
        check.due("none ahead of nothing", x.shift(5, 0, 6, 0, 1), -1);
        check.due("nothing", x.shift(0, 0, 5, 0, 1), -11);
        check.due("nothing", x.shift(5, 0, 0, 0, 1), -11);
        check.due("nothing in both", x.shift(5, -1, 5, 0, 1), -11);
        check.due("unlike sorts", x.shift(0, 0, 2, 0, 1), -12);
        check.due("cast ahead of place", x.shift(0, 0, 2, 0, -1), -12);
        int[][] wrong = {{0, 0, -1}, {-1, 0, 1}, {0, -1, 1}, {3, 0, 2}, {0, 3, 2}, {5, 0, 0}, {0, 5, 0}, {0, 0, 5},
            {Integer.MAX_VALUE, 0, 1}, {0, Integer.MAX_VALUE, Integer.MAX_VALUE}, {1, 1, Integer.MAX_VALUE},
            {Integer.MIN_VALUE, 0, Integer.MIN_VALUE}};
        for (int[] w : wrong) {
            check.due("no place", x.shift(0, w[0], 1, w[1], w[2]), -13);
        }
        rowIs(x, 0, 0, 1, 2, 3);
        rowIs(x, 1, 10, 11, 12, 13);
    }
}
