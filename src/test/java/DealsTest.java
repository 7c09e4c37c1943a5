/** Promises 22 to 25: what to buy, what a sale changes, what frees a firm, papers. */
public final class DealsTest {
    private static final int FIRM = 1, PERSON = 2, KIN = 3;

    private final Check check = new Check("deals");

    public static void main(String[] args) {
        DealsTest t = new DealsTest();
        t.buy();
        t.buyCheaperMore();
        t.buyBySteps();
        t.buySinceToday();
        t.buyEightAtMost();
        t.buyWrong();
        t.sold();
        t.free();
        t.freeOfGroup();
        t.freeEightAtMost();
        t.may();
        t.mayOwnShares();
        t.mayWrong();
        t.check.end();
    }

    private void bought(WhoRules x, int ruler, int firm, long set, long price) {
        check.due("the set that " + ruler + " buys", x.buy(ruler, firm, 0), set);
        check.due("its price for " + ruler, x.buy(ruler, firm, 1), price);
    }

    /** Person 1 has 10 votes, 2 has 6, 3 has 5 and 2: none has more than half of 23. */
    private static WhoRules four() {
        WhoRules x = new WhoRules();
        x.holder(FIRM, 0);
        x.holder(PERSON, 0);
        x.holder(PERSON, 0);
        x.holder(PERSON, 0);
        x.share(0, 1, 1, 10);
        x.share(0, 2, 1, 6);
        x.share(0, 3, 1, 5);
        x.share(0, 3, 1, 2);
        return x;
    }

    private void buy() {
        WhoRules x = four();
        bought(x, 1, 0, -5, -5);
        x.price(1, 8);
        x.price(2, 8);
        bought(x, 1, 0, 2, 8);
        x.price(2, 7);
        bought(x, 1, 0, 4, 7);
        x.price(3, 1);
        bought(x, 1, 0, 8, 1);
        bought(x, 2, 0, 4 | 8, 8);
        x.price(0, 8);
        bought(x, 2, 0, 1, 8);
        bought(x, 3, 0, 1, 8);
        check.due("nothing is bought", x.ruler(0, 0), -5);
        check.due("no sale", x.count(4), 0);
        x.sale(0, 3);
        bought(x, 3, 0, 0, 0);
        bought(x, 1, 0, 1 | 8, 9);
        x.price(0, 0);
        bought(x, 1, 0, 2 | 4 | 8, 16);
    }

    /** The cheaper set is the one to buy, though the dearer one has fewer shares. */
    private void buyCheaperMore() {
        WhoRules x = new WhoRules();
        x.holder(FIRM, 0);
        x.holder(PERSON, 0);
        x.holder(PERSON, 0);
        x.holder(PERSON, 0);
        x.share(0, 1, 1, 4);
        x.share(0, 1, 1, 4);
        x.share(0, 2, 1, 10);
        x.share(0, 3, 1, 8);
        x.price(0, 1);
        x.price(1, 1);
        x.price(2, 9);
        bought(x, 3, 0, 1 | 2, 2);
        x.price(2, 2);
        bought(x, 3, 0, 4, 2);
        x.price(2, 1);
        bought(x, 3, 0, 4, 1);
    }

    private void buyBySteps() {
        WhoRules x = new WhoRules();
        x.holder(FIRM, 0);
        x.holder(FIRM, 0);
        x.holder(PERSON, 0);
        x.holder(KIN, 0);
        x.holder(KIN, 0);
        x.share(0, 1, 1, 10);
        x.share(0, 2, 1, 3);
        x.share(1, 2, 1, 5);
        x.share(1, 4, 1, 4);
        x.price(0, 50);
        x.price(2, 20);
        bought(x, 3, 0, 4, 20);
        bought(x, 3, 1, 4, 20);
        bought(x, 2, 0, 0, 0);
        check.due("kin beside the least", x.buy(4, 0, 0), Long.MIN_VALUE);
        x.price(2, 0);
        bought(x, 3, 0, 1, 50);
        bought(x, 3, 1, -5, -5);
    }

    private void buySinceToday() {
        WhoRules x = four();
        Texts.charter(x, 0, 0, "old 3 4");
        x.pass(3);
        x.price(1, 8);
        x.price(2, 7);
        // 40, 24, 20 and 8; with share 2 person 1 has 45 of 77, person 2 29 of 77.
        bought(x, 1, 0, 4, 7);
        bought(x, 2, 0, -5, -5);
        Texts.charter(x, 0, 0, "sleep d<1");
        // With share 2 person 1 has 40 of 72.
        bought(x, 1, 0, 4, 7);
        x.price(0, 1);
        // Without share 0 person 2 has 24 of 52, without share 2, too, 24 of 32.
        bought(x, 2, 0, 1 | 4, 8);
        x.price(3, 1);
        // Without shares 0 and 3 it has 24 of 44.
        bought(x, 2, 0, 1 | 8, 2);
        WhoRules y = four();
        y.price(0, 30);
        y.pass(1);
        y.sale(0, 2);
        y.sale(0, 1);
        Texts.charter(y, 0, 0, "sleep h=1");
        bought(y, 2, 0, 1, 30);
    }

    private void buyEightAtMost() {
        WhoRules x = new WhoRules();
        x.holder(FIRM, 0);
        x.holder(PERSON, 0);
        x.holder(PERSON, 0);
        for (int s = 0; s < 10; s++) {
            x.share(0, s == 3 ? 2 : 1, 0, s == 9 ? 90 : 1);
            x.price(s, s + 1);
        }
        bought(x, 2, 0, -5, -5);
        x.price(0, 0);
        bought(x, 2, 0, 512, 10);
        x.price(0, 1);
        x.sale(1, 2);
        bought(x, 2, 0, 512, 10);
    }

    private void buyWrong() {
        WhoRules x = four();
        long no = Long.MIN_VALUE;
        check.due("a firm as a ruler", x.buy(0, 0, 0), no);
        check.due("no such ruler", x.buy(4, 0, 0), no);
        check.due("no such ruler", x.buy(-1, 0, 0), no);
        check.due("a person as a firm", x.buy(1, 1, 0), no);
        check.due("no such firm", x.buy(1, 4, 0), no);
        check.due("no such what", x.buy(1, 0, 2), no);
        check.due("no such what", x.buy(1, 0, -1), no);
    }

    private void sold() {
        WhoRules x = new WhoRules();
        x.holder(PERSON, 0);
        x.holder(FIRM, 0);
        x.holder(PERSON, 0);
        x.holder(FIRM, 0);
        x.share(1, 0, 1, 5);
        x.share(1, 2, 1, 4);
        x.share(3, 1, 1, 7);
        x.share(3, 2, 1, 1);
        check.due("both firms go to another", x.sold(0), 2 | 8);
        check.due("none changes", x.sold(1), 0);
        check.due("firm 3 goes to another", x.sold(2), 8);
        check.due("none changes", x.sold(3), 0);
        check.due("no such share", x.sold(4), -1);
        check.due("no such share", x.sold(-1), -1);
        check.due("nothing is sold", x.ruler(3, 0), 0);
        x.sale(1, 1);
        check.due("firm 1 has no ruler without it", x.sold(0), 2 | 8);
        WhoRules y = four();
        check.due("without 10 5 and 2 are more than half of the rest", y.sold(0), 1);
        check.due("without 6 more than half of the rest", y.sold(1), 1);
        check.due("without 2", y.sold(3), 0);
    }

    private void free() {
        WhoRules x = four();
        check.due("it has no ruler", x.free(0), Long.MIN_VALUE);
        check.due("no firm", x.free(1), Long.MIN_VALUE);
        check.due("no firm", x.free(-1), Long.MIN_VALUE);
        check.due("no firm", x.free(4), Long.MIN_VALUE);
        x.sale(3, 1);
        // 12 of 23; without 10 the others have 6 and 5 of 13, without 2 it is 10 of 21.
        check.due("one share, the least bits", x.free(0), 1);
        x.sale(1, 1);
        // 18 of 23; without 10 it is 8 of 13, without 6 12 of 17; without both person 3 rules by 5 of 7.
        check.due("none such", x.free(0), -5);
        WhoRules y = new WhoRules();
        y.holder(FIRM, 0);
        y.holder(PERSON, 0);
        y.holder(PERSON, 0);
        y.holder(PERSON, 0);
        y.share(0, 2, 1, 4);
        for (int s = 1; s < 4; s++) {
            y.share(0, 1, 1, 5);
        }
        y.share(0, 3, 1, 4);
        // 15 of 23; without one share it is 10 of 18, without two 5 of 13.
        check.due("two shares", y.free(0), 2 | 4);
        Texts.charter(y, 0, 0, "need 0 1;sleep h>1");
        check.due("all shares", y.free(0), 2 | 4 | 8);
        Texts.charter(y, 0, 0, "gold 1;sleep v<5;need 0 1");
        check.due("all shares", y.free(0), 2 | 4 | 8);
        check.due("nothing is changed", y.ruler(0, 0), 1);
    }

    private void freeOfGroup() {
        WhoRules x = new WhoRules();
        x.holder(FIRM, 0);
        x.holder(FIRM, 0);
        x.holder(KIN, 3);
        x.holder(KIN, 3);
        x.holder(PERSON, 0);
        x.share(0, 1, 1, 9);
        x.share(0, 4, 1, 8);
        x.share(1, 3, 1, 2);
        x.share(1, 4, 0, 1);
        check.due("ruler", x.ruler(0, 0), 2);
        // Without share 0 or share 2 firm 0 is person 4's: it has a ruler still.
        check.due("another rules then", x.free(0), -5);
        x.sale(1, 0);
        check.due("without the firm's or the kin's", x.free(0), 1);
        check.due("firm 1", x.free(1), -5);
        x.sale(3, 1);
        check.due("the least one, of any firm", x.free(1), 4);
        check.due("the least bits", x.free(0), 1);
    }

    private void freeEightAtMost() {
        WhoRules x = new WhoRules();
        x.holder(FIRM, 0);
        x.holder(FIRM, 0);
        x.holder(PERSON, 0);
        for (int s = 0; s < 8; s++) {
            x.share(0, 2, 0, 1);
        }
        check.due("eight", x.free(0), 255);
        x.share(1, 2, 0, 1);
        check.due("the ninth is not looked at", x.free(1), -5);
        x.sale(0, 0);
        check.due("a share of its firm is the group's", x.free(1), -5);
        x.sale(1, 2);
        x.holder(PERSON, 0);
        x.sale(1, 3);
        check.due("another's is not", x.free(1), 256);
    }

    private void may() {
        WhoRules x = new WhoRules();
        x.holder(FIRM, 0);
        x.holder(PERSON, 0);
        x.holder(PERSON, 0);
        x.share(0, 1, 5, 10);
        x.share(0, 2, 4, 6);
        x.share(0, 0, 2, 7);
        int[][] due = {
            // by h: may 1, surely 1, may 2, surely 2
            {0, 1, 1, 0, 0}, {2, 1, 1, 0, 0}, {3, 1, 1, 1, 0}, {4, 1, 1, 1, 0}, {5, 1, 1, 1, 0}, {6, 1, 0, 1, 0}, {12, 1, 0, 1, 0},
        };
        for (int[] d : due) {
            check.due("may 1 by " + d[0], x.may(1, 0, d[0], 0), d[1]);
            check.due("surely 1 by " + d[0], x.may(1, 0, d[0], 1), d[2]);
            check.due("may 2 by " + d[0], x.may(2, 0, d[0], 0), d[3]);
            check.due("surely 2 by " + d[0], x.may(2, 0, d[0], 1), d[4]);
        }
    }

    private void mayOwnShares() {
        WhoRules x = new WhoRules();
        x.holder(FIRM, 0);
        x.holder(PERSON, 0);
        x.holder(PERSON, 0);
        x.share(0, 1, 1, 4);
        x.share(0, 2, 3, 6);
        Texts.charter(x, 0, 0, "old 2 2");
        x.pass(2);
        x.sale(1, 2);
        check.due("not by itself", x.may(1, 0, 0, 0), 0);
        x.pass(1);
        x.sale(1, 0);
        x.sale(1, 2);
        // Its own hidden share stays as old as it is; surely it is nobody's.
        check.due("its own stays as it is", x.may(1, 0, 2, 0), 1);
        check.due("surely", x.may(1, 0, 2, 1), 0);
        check.due("the other surely", x.may(2, 0, 2, 1), 1);
        check.due("the other surely by 4", x.may(2, 0, 4, 1), 0);
        check.due("the other may not be so old", x.may(2, 0, 2, 0), 1);
        check.due("nothing has changed", x.held(0, 3, 0), 1);
    }

    private void mayWrong() {
        WhoRules x = four();
        check.due("a firm as a ruler", x.may(0, 0, 1, 0), -1);
        check.due("no such ruler", x.may(4, 0, 1, 0), -1);
        check.due("no such ruler", x.may(-1, 0, 1, 0), -1);
        check.due("a person as a firm", x.may(1, 1, 1, 0), -1);
        check.due("no such what", x.may(1, 0, 1, 2), -1);
        check.due("no such what", x.may(1, 0, 1, -1), -1);
        check.due("none ahead of bad", x.may(1, 0, 13, 2), -1);
        check.due("h 13", x.may(1, 0, 13, 0), -2);
        check.due("h -1", x.may(1, 0, -1, 1), -2);
        check.due("h 12", x.may(1, 0, 12, 0), 1);
    }
}
