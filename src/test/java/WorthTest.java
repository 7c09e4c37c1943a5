/** Promises 19 to 21: worth, hollow firms, turns. */
public final class WorthTest {
    private static final int FIRM = 1, PERSON = 2, KIN = 3, FUND = 4;

    private final Check check = new Check("worth");

    public static void main(String[] args) {
        WorthTest t = new WorthTest();
        t.worth();
        t.worthInRings();
        t.longRing();
        t.longChain();
        t.worthWrong();
        t.hollow();
        t.hollowFirms();
        t.turns();
        t.turnsOfGold();
        t.turnsWithoutTheGold();
        t.turnsOfBlocks();
        t.turnsOfMany();
        t.check.end();
    }

    private void worthIs(WhoRules x, int firm, int holder, long above, long below) {
        check.due("worth of " + firm + " for " + holder + " above", x.worth(firm, holder, 0), above);
        check.due("worth of " + firm + " for " + holder + " below", x.worth(firm, holder, 1), below);
    }

    private void worth() {
        WhoRules x = new WhoRules();
        x.holder(FIRM, 0);
        x.holder(PERSON, 0);
        x.holder(FUND, 0);
        x.holder(0, 0);
        worthIs(x, 0, 1, 0, 1);
        x.share(0, 1, 3, 0);
        x.share(0, 1, 1, 0);
        x.share(0, 2, 5, 0);
        x.share(0, 3, 0, 9);
        worthIs(x, 0, 1, 1, 3);
        worthIs(x, 0, 2, 5, 12);
        worthIs(x, 0, 3, 0, 1);
        x.pass(1);
        x.sale(1, 3);
        worthIs(x, 0, 1, 1, 4);
        worthIs(x, 0, 3, 1, 12);
        x.share(0, 3, 3, 0);
        worthIs(x, 0, 3, 1, 3);
    }

    private void worthInRings() {
        WhoRules x = new WhoRules();
        x.holder(FIRM, 0);
        x.holder(FIRM, 0);
        x.holder(PERSON, 0);
        x.holder(FIRM, 0);
        x.share(0, 0, 6, 0);
        x.share(0, 2, 3, 0);
        worthIs(x, 0, 2, 1, 2);
        x.share(1, 0, 12, 0);
        worthIs(x, 1, 2, 1, 2);
        x.share(0, 1, 3, 0);
        worthIs(x, 0, 2, 1, 1);
        worthIs(x, 1, 2, 1, 1);
        x.share(3, 1, 7, 0);
        x.share(3, 2, 1, 0);
        worthIs(x, 3, 2, 2, 3);
    }

    /** Seven firms, each had by the next one and by a person; the numbers are those of a shared run. */
    private void longRing() {
        WhoRules x = new WhoRules();
        for (int f = 0; f < 7; f++) {
            x.holder(FIRM, 0);
        }
        for (int p = 7; p < 12; p++) {
            x.holder(PERSON, 0);
        }
        for (int f = 0; f < 7; f++) {
            x.share(f, (f + 1) % 7, 6, 9);
        }
        for (int f = 0; f < 5; f++) {
            x.share(f, 7 + f, 5, 4);
        }
        x.share(5, 7, 6, 10);
        worthIs(x, 0, 7, 166, 381);
        worthIs(x, 6, 11, 5, 381);
        worthIs(x, 3, 8, 5, 381);
    }

    /** Each firm is had whole by the next one, the last one by a person: all comes there. */
    private void longChain() {
        WhoRules x = new WhoRules();
        for (int f = 0; f < 7; f++) {
            x.holder(FIRM, 0);
        }
        x.holder(PERSON, 0);
        for (int f = 0; f < 7; f++) {
            x.share(f, f + 1, 12, 1);
        }
        for (int f = 0; f < 7; f++) {
            check.due("not hollow " + f, x.hollow(f), 0);
            worthIs(x, f, 7, 1, 1);
        }
        x.sale(6, 0);
        for (int f = 0; f < 7; f++) {
            check.due("hollow " + f, x.hollow(f), 1);
            worthIs(x, f, 7, 0, 1);
        }
    }

    private void worthWrong() {
        WhoRules x = new WhoRules();
        x.holder(FIRM, 0);
        x.holder(PERSON, 0);
        x.holder(FIRM, 0);
        x.share(0, 2, 1, 1);
        int[][] wrong = {{1, 1, 0}, {3, 1, 0}, {-1, 1, 0}, {0, 3, 0}, {0, -1, 0}, {0, 1, 2}, {0, 1, -1}, {0, 2, 0}, {0, 0, 1}};
        for (int[] w : wrong) {
            check.due("worth", x.worth(w[0], w[1], w[2]), Long.MIN_VALUE);
        }
    }

    private void hollow() {
        WhoRules x = new WhoRules();
        x.holder(FIRM, 0);
        x.holder(PERSON, 0);
        check.due("nobody's", x.hollow(0), 0);
        x.share(0, 0, 11, 1);
        check.due("a part is nobody's", x.hollow(0), 0);
        x.share(0, 1, 0, 1);
        x.share(0, 0, 1, 1);
        check.due("all its own; 0 parts bring nothing", x.hollow(0), 1);
        worthIs(x, 0, 1, 0, 1);
        x.sale(2, 1);
        check.due("a part is a person's", x.hollow(0), 0);
        worthIs(x, 0, 1, 1, 1);
        check.due("a person", x.hollow(1), -1);
        check.due("nobody", x.hollow(2), -1);
        check.due("nobody", x.hollow(-1), -1);
    }

    private void hollowFirms() {
        WhoRules x = new WhoRules();
        for (int f = 0; f < 4; f++) {
            x.holder(FIRM, 0);
        }
        x.holder(FUND, 0);
        x.share(0, 1, 12, 1);
        x.share(1, 2, 12, 1);
        x.share(2, 0, 12, 1);
        x.share(3, 0, 6, 1);
        x.share(3, 4, 3, 1);
        int[] due = {1, 1, 1, 0};
        for (int f = 0; f < 4; f++) {
            check.due("hollow " + f, x.hollow(f), due[f]);
        }
        worthIs(x, 3, 4, 1, 4);
        worthIs(x, 0, 4, 0, 1);
        x.sale(1, 3);
        for (int f = 0; f < 4; f++) {
            check.due("not hollow " + f, x.hollow(f), 0);
        }
        worthIs(x, 1, 4, 1, 2);
    }

    private static WhoRules voters(int... votes) {
        WhoRules x = new WhoRules();
        x.holder(FIRM, 0);
        for (int v : votes) {
            x.holder(PERSON, 0);
            x.share(0, x.count(1) - 1, 0, v);
        }
        return x;
    }

    private void turns() {
        WhoRules x = voters(50, 49, 1, 0);
        int[] due = {0, 3, 1, 1, 0};
        for (int h = 0; h < 5; h++) {
            check.due("turns of " + h, x.pivot(0, h), due[h]);
        }
        WhoRules y = voters(3, 2, 2);
        for (int h = 1; h <= 3; h++) {
            check.due("turns of equals", y.pivot(0, h), 2);
        }
        Texts.charter(y, 0, 0, "need 6 7");
        for (int h = 1; h <= 3; h++) {
            check.due("all must say yes", y.pivot(0, h), 1);
        }
        Texts.charter(y, 0, 0, "need 0 1");
        check.due("any vote does", y.pivot(0, 1), 1);
        check.due("no firm", y.pivot(1, 1), -1);
        check.due("no firm", y.pivot(-1, 1), -1);
        check.due("no holder", y.pivot(0, 4), -1);
        check.due("no holder", y.pivot(0, -1), -1);
        WhoRules ruled = voters(9, 2, 2);
        int[] own = {4, 4, 0, 0};
        check.due("a ruler's firm is of its block", ruled.pivot(0, 0), own[0]);
        for (int h = 1; h <= 3; h++) {
            check.due("ruled by one", ruled.pivot(0, h), own[h]);
        }
    }

    private void turnsOfGold() {
        WhoRules x = voters(3, 2, 2);
        x.holder(FUND, 0);
        check.due("a fund has no block", x.pivot(0, 4), 0);
        Texts.charter(x, 0, 0, "gold 4");
        int[] due = {0, 2, 2, 2, 4};
        for (int h = 0; h < 5; h++) {
            check.due("turns of " + h, x.pivot(0, h), due[h]);
        }
        Texts.charter(x, 0, 0, "gold 1");
        // 3 with 2, with the other 2, or with both; either 2 turns only where 3 says yes and the other 2 no.
        int[] then = {0, 3, 1, 1, 0};
        for (int h = 0; h < 5; h++) {
            check.due("then turns of " + h, x.pivot(0, h), then[h]);
        }
        Texts.charter(x, 0, 0, "gold 9");
        check.due("a gold of none", x.pivot(0, 1), 2);
    }

    private void turnsWithoutTheGold() {
        WhoRules x = voters(3, 2, 2, 5);
        Texts.charter(x, 0, 0, "gold 4");
        // With 5 of 12 one more of any size is enough; without 5 nothing is.
        int[] due = {0, 1, 1, 1, 7};
        for (int h = 0; h < 5; h++) {
            check.due("with a gold of 5, turns of " + h, x.pivot(0, h), due[h]);
        }
        WhoRules y = voters(4, 2, 1, 3);
        Texts.charter(y, 0, 0, "gold 4;need 2 3");
        // 7 of 10 are needed: 4 and 3 are always among them, and enough.
        int[] then = {0, 4, 0, 0, 4};
        for (int h = 0; h < 5; h++) {
            check.due("with a gold of 3, turns of " + h, y.pivot(0, h), then[h]);
        }
    }

    private void turnsOfBlocks() {
        WhoRules x = new WhoRules();
        x.holder(FIRM, 0);
        x.holder(FIRM, 0);
        x.holder(PERSON, 0);
        x.holder(KIN, 1);
        x.holder(KIN, 1);
        x.holder(PERSON, 0);
        x.share(1, 2, 0, 5);
        x.share(0, 1, 0, 4);
        x.share(0, 3, 0, 2);
        x.share(0, 4, 0, 1);
        x.share(0, 5, 0, 4);
        // In firm 0: person 2 by its firm 4, the kin 3, person 5 4: any two of these carry.
        int[] due = {0, 2, 2, 2, 2, 2};
        for (int h = 1; h < 6; h++) {
            check.due("turns of " + h, x.pivot(0, h), due[h]);
        }
        check.due("in firm 1", x.pivot(1, 2), 1);
        check.due("no block there", x.pivot(1, 5), 0);
        check.due("the ruled firm there", x.pivot(1, 1), 1);
        x.sale(0, 1);
        check.due("firm 1 alone", x.pivot(0, 1), 2);
        check.due("person 2 without it", x.pivot(0, 2), 0);
    }

    private void turnsOfMany() {
        int[] votes = new int[15];
        java.util.Arrays.fill(votes, 1);
        WhoRules x = voters(votes);
        // One of 15 turns where 7 of the other 14 say yes.
        check.due("one of 15", x.pivot(0, 15), 3432);
        Texts.charter(x, 0, 0, "gold 0");
        check.due("the firm itself as gold", x.pivot(0, 0), 16384);
        check.due("one of 15 with that", x.pivot(0, 1), 3432);
    }
}
