/** Promises 15 to 18: rulers by least, steps, all rules that fit, proofs. */
public final class RuleTest {
    private static final int FIRM = 1, PERSON = 2, KIN = 3;

    private final Check check = new Check("rule");

    public static void main(String[] args) {
        RuleTest t = new RuleTest();
        t.chain();
        t.family();
        t.leastOfSeveral();
        t.days();
        t.wrong();
        t.all();
        t.allOfDays();
        t.allRefused();
        t.allWithGold();
        t.holderZero();
        t.proof();
        t.proofTorn();
        t.proofWrong();
        t.check.end();
    }

    /** Firm 0 is had by firm 1, firm 1 by person 3, firm 2 by firm 0. */
    private static WhoRules chained() {
        WhoRules x = new WhoRules();
        x.holder(FIRM, 0);
        x.holder(FIRM, 0);
        x.holder(FIRM, 0);
        x.holder(PERSON, 0);
        x.holder(PERSON, 0);
        x.share(0, 1, 1, 6);
        x.share(0, 4, 1, 5);
        x.share(1, 3, 1, 2);
        x.share(1, 4, 1, 1);
        x.share(2, 0, 1, 3);
        return x;
    }

    private void chain() {
        WhoRules x = chained();
        for (int f = 0; f < 3; f++) {
            check.due("ruler of " + f, x.ruler(f, 0), 3);
        }
        check.due("a step, asked first of all", chained().step(0, 0), 1);
        int[] steps = {3, 1, 0, 2, -1};
        for (int i = -1; i < 4; i++) {
            check.due("step " + i, x.step(0, i), steps[i + 1]);
        }
        x.sale(2, 4);
        for (int f = 0; f < 3; f++) {
            check.due("then ruler of " + f, x.ruler(f, 0), 4);
        }
        x.sale(2, 1);
        check.due("half of 1 in itself, 4 has the rest", x.ruler(1, 0), 4);
        x.sale(3, 1);
        check.due("all in itself", x.ruler(1, 0), -5);
        check.due("and firm 0 then", x.ruler(0, 0), -5);
        check.due("no steps", x.step(0, -1), 0);
        check.due("no step", x.step(0, 0), -1);
    }

    private void family() {
        WhoRules x = new WhoRules();
        x.holder(PERSON, 0);
        x.holder(KIN, 2);
        x.holder(FIRM, 0);
        x.holder(KIN, 1);
        x.holder(KIN, 2);
        x.share(2, 0, 1, 10);
        x.share(2, 1, 1, 5);
        x.share(2, 4, 1, 5);
        check.due("just half", x.ruler(2, 0), -5);
        x.share(2, 4, 1, 1);
        check.due("the least of the family", x.ruler(2, 0), 1);
        x.share(2, 3, 1, 22);
        check.due("another family", x.ruler(2, 0), 3);
    }

    private void leastOfSeveral() {
        WhoRules x = new WhoRules();
        x.holder(FIRM, 0);
        x.holder(PERSON, 0);
        x.holder(PERSON, 0);
        x.holder(PERSON, 0);
        x.share(0, 3, 1, 5);
        x.share(0, 2, 1, 1);
        Texts.charter(x, 0, 1, "need 0 1");
        check.due("by more than half", x.ruler(0, 0), 3);
        check.due("by any vote", x.ruler(0, 1), 2);
        Texts.charter(x, 0, 2, "gold 3");
        check.due("by the gold", x.ruler(0, 2), 3);
        Texts.charter(x, 0, 3, "gold 0");
        check.due("the firm itself would have to say yes", x.ruler(0, 3), -5);
        Texts.charter(x, 0, 4, "gold 4");
        check.due("a gold of none", x.ruler(0, 4), 2);
    }

    /** The first holder of all is as good a ruler as any, and as good a firm. */
    private void holderZero() {
        WhoRules x = new WhoRules();
        x.holder(KIN, 0);
        x.holder(FIRM, 0);
        x.holder(KIN, 0);
        x.holder(FIRM, 0);
        x.holder(PERSON, 0);
        x.share(1, 2, 1, 5);
        x.share(1, 4, 1, 4);
        x.share(3, 1, 1, 5);
        x.share(3, 4, 1, 4);
        check.due("rulers", x.count(8), 2);
        check.due("ruler of 1", x.ruler(1, 0), 0);
        check.due("ruler of 3", x.ruler(3, 0), 0);
        check.due("steps", x.step(0, -1), 2);
        check.due("all", x.all(0, -1, 1), 1);
        check.due("of the one that fits", x.all(0, 0, 3), 0);
        write(x, 0, 1, 0, 1, 0, 3, 0);
        check.due("twice the same", x.proof(0, 0, 2), 1);
        write(x, 0, 1, 0, 3, 0);
        check.due("both", x.proof(0, 0, 2), 2);
        check.due("free: the other would rule then", x.free(1), -5);
        check.due("turns", x.pivot(3, 0), 2);
        check.due("turns of kin", x.pivot(3, 2), 2);
        check.due("no block", x.pivot(1, 3), 2);
        x.sale(0, 4);
        check.due("the other's", x.ruler(3, 0), 4);
        check.due("buys", x.buy(0, 3, 0), -5);
        x.price(0, 9);
        check.due("buys", x.buy(0, 3, 0), 1);
        check.due("changes without", x.sold(0), 0);
        check.due("changes without", x.sold(1), 0);
        x.sale(1, 3);
        check.due("changes without", x.sold(0), 2 | 8);
    }

    private void days() {
        WhoRules x = new WhoRules();
        x.holder(FIRM, 0);
        x.holder(PERSON, 0);
        x.holder(PERSON, 0);
        x.pass(3);
        x.share(0, 1, 1, 5);
        x.pass(3);
        x.sale(0, 2);
        int[][] due = {{0, -5}, {2, -5}, {3, 1}, {5, 1}, {6, 2}, {999, 2}};
        for (int[] d : due) {
            check.due("ruler on " + d[0], x.ruler(0, d[0]), d[1]);
            check.due("steps on " + d[0], x.step(d[0], -1), d[1] < 0 ? 0 : 1);
        }
    }

    private void wrong() {
        WhoRules x = chained();
        check.due("a person", x.ruler(3, 0), -1);
        check.due("nobody", x.ruler(5, 0), -1);
        check.due("nobody", x.ruler(-1, 0), -1);
        check.due("no day", x.ruler(0, -1), -1);
        check.due("no day", x.ruler(0, 1000), -1);
        check.due("no day", x.step(-1, 0), -1);
        check.due("no day", x.step(1000, -1), -1);
        check.due("no step", x.step(0, -2), -1);
        check.due("no step", x.step(0, Integer.MAX_VALUE), -1);
    }

    /** Two firms that have most of one another, and two persons with a little of both. */
    private static WhoRules ringed() {
        WhoRules x = new WhoRules();
        x.holder(FIRM, 0);
        x.holder(FIRM, 0);
        x.holder(PERSON, 0);
        x.holder(PERSON, 0);
        x.pass(1);
        x.share(0, 1, 1, 9);
        x.share(1, 0, 1, 9);
        for (int f = 0; f < 2; f++) {
            x.share(f, 2, 1, 1);
            x.share(f, 3, 1, 1);
        }
        return x;
    }

    private void all() {
        WhoRules x = ringed();
        check.due("how many fit", x.all(1, -1, 0), 3);
        int[] due = {-5, 2, 3, -1};
        for (int i = 0; i < 4; i++) {
            check.due("ruler of 0 in " + i, x.all(1, i, 0), due[i]);
            check.due("ruler of 1 in " + i, x.all(1, i, 1), due[i]);
        }
        check.due("least", x.ruler(0, 1), -5);
        x.sale(0, 2);
        check.due("firm 0 had outright", x.all(1, -1, 0), 1);
        check.due("its ruler", x.all(1, 0, 0), 2);
        check.due("and firm 1's", x.all(1, 0, 1), 2);
        check.due("as firm 0 has that", x.ruler(1, 1), 2);
        x.sale(1, 3);
        check.due("each its own", x.all(1, 0, 0), 2);
        check.due("each its own", x.all(1, 0, 1), 3);
    }

    private void allOfDays() {
        WhoRules x = ringed();
        check.due("on the day ahead", x.all(0, -1, 0), 1);
        check.due("nobody rules then", x.all(0, 0, 1), -5);
        check.due("no other then", x.all(0, 1, 1), -1);
        WhoRules order = new WhoRules();
        order.holder(PERSON, 0);
        order.holder(FIRM, 0);
        order.holder(PERSON, 0);
        order.holder(FIRM, 0);
        order.share(1, 1, 1, 1);
        Texts.charter(order, 1, 0, "gold 1;need 0 1");
        Texts.charter(order, 3, 0, "gold 3;need 0 1");
        order.share(1, 3, 1, 1);
        order.share(3, 1, 1, 1);
        int[][] rows = {{-5, -5}, {0, 0}, {2, 2}};
        check.due("rows", order.all(0, -1, 1), rows.length);
        for (int i = 0; i < rows.length; i++) {
            check.due("row " + i, order.all(0, i, 1), rows[i][0]);
            check.due("row " + i, order.all(0, i, 3), rows[i][1]);
        }
    }

    private void allWithGold() {
        WhoRules x = new WhoRules();
        x.holder(FIRM, 0);
        x.holder(FIRM, 0);
        x.holder(PERSON, 0);
        x.holder(PERSON, 0);
        x.share(0, 2, 1, 1);
        x.share(0, 3, 1, 1);
        x.share(1, 2, 1, 1);
        x.share(1, 3, 1, 1);
        Texts.charter(x, 0, 0, "gold 0;need 0 1");
        Texts.charter(x, 1, 0, "gold 1;need 0 1");
        // Who rules a firm has its gold, so each firm may have any ruler or none: the first firm's changes last.
        check.due("all", x.all(0, -1, 1), 9);
        int[] rulers = {-5, 2, 3};
        for (int i = 0; i < 9; i++) {
            check.due("row " + i, x.all(0, i, 0), rulers[i / 3]);
            check.due("row " + i, x.all(0, i, 1), rulers[i % 3]);
        }
        check.due("least", x.step(0, -1), 0);
    }

    private void allRefused() {
        WhoRules x = new WhoRules();
        for (int f = 0; f < 5; f++) {
            x.holder(FIRM, 0);
        }
        x.holder(PERSON, 0);
        x.holder(PERSON, 0);
        x.holder(KIN, 0);
        x.holder(KIN, 0);
        x.holder(KIN, 1);
        check.due("5 firms, 4 rulers", x.all(0, -1, 0), 1);
        check.due("none", x.all(0, 0, 4), -5);
        check.due("no i-th", x.all(0, 1, 4), -1);
        check.due("no day", x.all(-1, -1, 0), -1);
        check.due("no day", x.all(1000, -1, 0), -1);
        check.due("no firm", x.all(0, -1, 5), -1);
        check.due("no firm", x.all(0, -1, -1), -1);
        check.due("i below -1", x.all(0, -2, 0), -1);
        x.holder(KIN, 2);
        check.due("5 rulers", x.all(0, -1, 0), -9);
        check.due("5 rulers, no i-th", x.all(0, 99, 0), -9);
        check.due("none ahead of it", x.all(0, -2, 0), -1);
        check.due("none ahead of it", x.all(0, -1, 9), -1);
        WhoRules y = new WhoRules();
        for (int f = 0; f < 6; f++) {
            check.due("firms", y.all(0, -1, 0), f == 0 ? -1 : 1);
            y.holder(FIRM, 0);
        }
        check.due("6 firms", y.all(0, -1, 0), -9);
    }

    private static void write(WhoRules x, int tape, int... items) {
        x.tape(tape, 1, items.length);
        for (int i = 0; i < items.length; i++) {
            x.item(tape, i, items[i]);
        }
    }

    private void proof() {
        WhoRules x = chained();
        write(x, 2, 9, 1, 3, 0, 3, 2, 3, 0, 3);
        check.due("three steps", x.proof(2, 1, 3), 3);
        check.due("one of these", x.proof(2, 1, 1), 1);
        check.due("a firm that has a ruler", x.proof(2, 1, 4), 3);
        check.due("from the second step on", x.proof(2, 3, 1), 0);
        check.due("half a pair off", x.proof(2, 0, 1), 0);
        write(x, 2, 1, 3, 2, 3, 0, 3);
        check.due("a bad one ends it", x.proof(2, 0, 3), 1);
        write(x, 2, 1, 4, 0, 4);
        check.due("another ruler", x.proof(2, 0, 2), 0);
        write(x, 2, 3, 3, 1, 3);
        check.due("a person as a firm", x.proof(2, 0, 2), 0);
        write(x, 2, 1, 1);
        check.due("a firm as a ruler", x.proof(2, 0, 1), 0);
        write(x, 2, -1, 3, 1, 99);
        check.due("no such firm", x.proof(2, 0, 1), 0);
        check.due("no such ruler", x.proof(2, 2, 1), 0);
        write(x, 2, 65536 + 1, -65536 + 3);
        check.due("shorts keep their lowest bits", x.proof(2, 0, 1), 1);
        WhoRules y = ringed();
        write(y, 0, 0, 2, 1, 2);
        check.due("a rule that only fits itself", y.proof(0, 0, 2), 0);
        WhoRules z = new WhoRules();
        z.holder(FIRM, 0);
        z.holder(KIN, 0);
        z.holder(KIN, 0);
        z.share(0, 1, 1, 1);
        write(z, 0, 0, 2, 0, 1);
        check.due("not the least of a family", z.proof(0, 0, 1), 0);
        check.due("the least", z.proof(0, 2, 1), 1);
        z.pass(1);
        z.sale(0, 0);
        check.due("today", z.proof(0, 2, 1), 0);
    }

    private void proofTorn() {
        WhoRules x = chained();
        check.due("nothing there", x.proof(5, 0, 7), 100);
        write(x, 5, 1, 3, 0, 3, 2);
        check.due("half the third pair", x.proof(5, 0, 3), 102);
        check.due("whole", x.proof(5, 0, 2), 2);
        check.due("a bad pair ahead", x.proof(5, 1, 3), 100);
        check.due("ahead of the row", x.proof(5, -1, 1), 100);
        check.due("ahead of the row", x.proof(5, -2, 2), 100);
        check.due("behind the row", x.proof(5, 5, 1), 100);
        check.due("just the last place", x.proof(5, 4, 1), 100);
        check.due("far behind", x.proof(5, Integer.MAX_VALUE, 7), 100);
        check.due("far ahead", x.proof(5, Integer.MIN_VALUE, 7), 100);
        x.tape(5, 1, 0);
        check.due("an empty row", x.proof(5, 0, 1), 100);
    }

    private void proofWrong() {
        WhoRules x = chained();
        check.due("no tape", x.proof(6, 0, 1), -1);
        check.due("no tape", x.proof(-1, 0, 1), -1);
        check.due("none ahead of bad", x.proof(6, 0, 0), -1);
        check.due("n 0", x.proof(0, 0, 0), -2);
        check.due("n 8", x.proof(0, 0, 8), -2);
        x.tape(0, 2, 9);
        check.due("bad ahead of cast", x.proof(0, 0, 8), -2);
        for (int sort = 0; sort < 5; sort++) {
            x.tape(0, sort, 4);
            check.due("sort " + sort, x.proof(0, 0, 1), sort == 1 ? 0 : -12);
            check.due("sort " + sort + ", torn", x.proof(0, 9, 1), sort == 1 ? 100 : -12);
        }
    }
}
