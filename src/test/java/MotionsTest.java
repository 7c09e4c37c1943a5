/** Promises 26 to 30: motions, who is as one, rings and what breaks them. */
public final class MotionsTest {
    private static final int FIRM = 1, PERSON = 2, KIN = 3;

    private final Check check = new Check("motions");

    public static void main(String[] args) {
        MotionsTest t = new MotionsTest();
        t.motion();
        t.alike();
        t.found();
        t.foundThroughOthers();
        t.ring();
        t.longestRing();
        t.ringLeastRow();
        t.ringToday();
        t.breaks();
        t.breaksTwelveAtMost();
        t.check.end();
    }

    private static WhoRules holders(int kind, int n) {
        WhoRules x = new WhoRules();
        for (int k = 0; k < n; k++) {
            x.holder(kind, 0);
        }
        return x;
    }

    private void motion() {
        WhoRules x = holders(PERSON, 3);
        check.due("one in both", x.motion(3, 6), -2);
        check.due("none such", x.motion(8, 0), -2);
        check.due("none such", x.motion(0, 8), -2);
        check.due("none such", x.motion(-1, 0), -2);
        check.due("none such", x.motion(0, Integer.MIN_VALUE), -2);
        check.due("nothing said", x.motion(0, 0), 0);
        for (int k = 1; k < 30; k++) {
            check.due("motion", x.motion(1, 6), k);
        }
        check.due("a motion too many", x.motion(1, 2), -4);
        check.due("bad ahead of full", x.motion(1, 1), -2);
        check.due("motions", x.count(7), 30);
        check.due("alike", x.alike(1, 2, 0), 29);
        check.due("apart", x.alike(0, 2, 1), 29);
        WhoRules full = holders(PERSON, 16);
        check.due("all sixteen", full.motion(0x5555, 0xAAAA), 0);
        check.due("a seventeenth", full.motion(0x10000, 0), -2);
        check.due("alike", full.alike(13, 15, 0), 1);
    }

    private void alike() {
        WhoRules x = new WhoRules();
        x.holder(FIRM, 0);
        x.holder(PERSON, 0);
        x.holder(0, 0);
        x.motion(3, 0);
        check.due("alike in the first", x.alike(0, 1, 0), 1);
        check.due("not apart in it", x.alike(0, 1, 1), 0);
        x.motion(1, 2);
        x.motion(0, 3);
        x.motion(4, 1);
        x.motion(2, 0);
        check.due("alike", x.alike(0, 1, 0), 2);
        check.due("apart", x.alike(0, 1, 1), 1);
        check.due("the other way", x.alike(1, 0, 0), 2);
        check.due("the other way", x.alike(1, 0, 1), 1);
        check.due("never both", x.alike(1, 2, 0), 0);
        check.due("apart", x.alike(2, 0, 1), 1);
        check.due("no holder", x.alike(3, 0, 0), -1);
        check.due("no holder", x.alike(0, -1, 0), -1);
        check.due("no holder twice", x.alike(3, 3, 0), -1);
        check.due("no what", x.alike(0, 1, 2), -1);
        check.due("no what", x.alike(0, 0, -1), -1);
        check.due("one holder", x.alike(0, 0, 1), -2);
    }

    private void found() {
        WhoRules x = new WhoRules();
        x.holder(PERSON, 0);
        x.holder(KIN, 1);
        x.holder(FIRM, 0);
        x.holder(PERSON, 0);
        x.holder(KIN, 1);
        x.holder(4, 0);
        check.due("n 0", x.found(0), -2);
        check.due("n 31", x.found(31), -2);
        check.due("n -1", x.found(-1), -2);
        check.due("none yet", x.found(1), 0);
        x.motion(1 | 2, 8 | 16);
        check.due("two sets", x.found(1), 2);
        check.due("not twice", x.found(2), 0);
        x.motion(1 | 2 | 4 | 32, 0);
        check.due("one twice", x.found(2), 1);
        check.due("firms and funds are none", x.found(1), 2);
        x.motion(8, 16);
        check.due("apart once", x.found(1), 1);
        x.motion(2, 1);
        check.due("apart once", x.found(1), 0);
        check.due("n 30", x.found(30), 0);
    }

    private void foundThroughOthers() {
        WhoRules x = holders(PERSON, 5);
        x.motion(1 | 16, 0);
        x.motion(16 | 2, 8);
        x.motion(2, 0);
        check.due("0, 4 and 1, through 4", x.found(1), 1);
        x.motion(1, 2);
        check.due("apart, but through 4", x.found(1), 1);
        x.motion(4 | 8, 0);
        check.due("2 and 3", x.found(1), 2);
        x.motion(8, 0);
        x.motion(1, 4);
        check.due("still two", x.found(1), 2);
    }

    private void ringIs(WhoRules x, int... firms) {
        check.due("ring's size", x.ring(-1), firms.length);
        for (int i = 0; i < firms.length; i++) {
            check.due("ring " + i, x.ring(i), firms[i]);
        }
        check.due("behind the ring", x.ring(firms.length), -1);
        check.due("far behind", x.ring(Integer.MAX_VALUE), -1);
        check.due("below -1", x.ring(-2), -1);
    }

    private void ring() {
        WhoRules x = holders(FIRM, 5);
        x.holder(PERSON, 0);
        ringIs(x);
        x.share(1, 4, 1, 0);
        x.share(3, 1, 1, 0);
        x.share(4, 3, 0, 9);
        ringIs(x);
        check.due("nothing to break", x.breaks(), 0);
        x.share(4, 3, 1, 0);
        ringIs(x, 1, 3, 4);
        x.share(3, 4, 1, 0);
        ringIs(x, 3, 4);
        x.share(4, 4, 1, 0);
        ringIs(x, 4);
        x.share(2, 2, 1, 0);
        ringIs(x, 2);
        check.due("breaks", x.breaks(), 1 << 3 | 1 << 5 | 1 << 6);
    }

    private void longestRing() {
        WhoRules x = holders(FIRM, 7);
        int[] row = {0, 5, 2, 6, 1, 4, 3};
        for (int i = 0; i < 7; i++) {
            x.share(row[(i + 1) % 7], row[i], 1, 0);
        }
        ringIs(x, row);
        check.due("any share breaks it", x.breaks(), 1);
        WhoRules own = holders(FIRM, 7);
        for (int s = 0; s < 13; s++) {
            own.share(s % 7, s % 7, 1, 0);
        }
        ringIs(own, 0);
        check.due("all twelve", own.breaks(), 4095);
        WhoRules chain = holders(FIRM, 7);
        for (int f = 0; f < 6; f++) {
            chain.share(f + 1, f, 2, 0);
            chain.share(6, f, 1, 0);
        }
        ringIs(chain);
        check.due("no ring", chain.breaks(), 0);
    }

    private void ringLeastRow() {
        WhoRules x = holders(FIRM, 6);
        int[][] has = {{5, 0}, {0, 4}, {4, 5}, {5, 1}, {1, 3}, {3, 5}, {4, 0}, {0, 5}};
        for (int[] h : has) {
            x.share(h[1], h[0], 1, 0);
        }
        ringIs(x, 0, 4);
        x.sale(6, 2);
        ringIs(x, 0, 5);
        x.sale(7, 2);
        // 0 has 4, 4 has 5, 5 has 0; 1 has 3, 3 has 5, 5 has 1.
        ringIs(x, 0, 4, 5);
        x.share(2, 0, 1, 0);
        x.share(5, 2, 1, 0);
        ringIs(x, 0, 2);
        x.sale(6, 3);
        ringIs(x, 0, 2, 5);
    }

    private void ringToday() {
        WhoRules x = holders(FIRM, 2);
        x.share(0, 1, 1, 0);
        x.share(1, 0, 1, 0);
        ringIs(x, 0, 1);
        x.pass(1);
        x.sale(0, 0);
        ringIs(x, 0);
        check.due("breaks", x.breaks(), 1);
        x.sale(0, 1);
        ringIs(x, 0, 1);
        check.due("the least bits", x.breaks(), 1);
    }

    private void breaks() {
        WhoRules x = holders(FIRM, 4);
        x.holder(PERSON, 0);
        x.share(0, 4, 1, 0);
        x.share(1, 0, 1, 0);
        x.share(2, 1, 1, 0);
        x.share(0, 2, 1, 0);
        x.share(0, 3, 1, 0);
        x.share(3, 1, 1, 0);
        // 0 has 1; 1 has 2 and 3; both have 0: one share breaks both rings.
        check.due("one for both", x.breaks(), 2);
        x.share(1, 0, 1, 0);
        // 1 and 6, 2 and 5, 3 and 4, 2 and 4, or 3 and 5.
        check.due("the least bits of two", x.breaks(), 4 | 16);
        x.share(1, 0, 0, 5);
        x.share(1, 0, 1, 0);
        check.due("the same two", x.breaks(), 4 | 16);
        x.sale(2, 4);
        check.due("one of the ring that is left", x.breaks(), 16);
    }

    private void breaksTwelveAtMost() {
        WhoRules x = holders(FIRM, 3);
        x.holder(PERSON, 0);
        x.share(0, 3, 1, 0);
        for (int k = 0; k < 6; k++) {
            x.share(1, 0, 1, 0);
            x.share(2, 1, 1, 0);
        }
        check.due("no ring", x.breaks(), 0);
        x.share(0, 2, 1, 0);
        check.due("the thirteenth is not looked at", x.breaks(), 0);
        check.due("yet it is a ring", x.ring(-1), 3);
        x.sale(1, 3);
        check.due("now it is looked at", x.breaks(), 1 << 13);
        x.share(0, 2, 1, 0);
        check.due("and the next one is not", x.breaks(), 1 << 13);
    }
}
