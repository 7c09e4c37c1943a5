/** Promises 1 to 8 and 34: holders, shares, sales, days, counts. */
public final class HoldersTest {
    private static final int FIRM = 1, PERSON = 2, KIN = 3;

    private final Check check = new Check("holders");

    public static void main(String[] args) {
        HoldersTest t = new HoldersTest();
        t.newObject();
        t.pass();
        t.holder();
        t.share();
        t.shareFull();
        t.price();
        t.sale();
        t.saleFull();
        t.of();
        t.held();
        t.count();
        t.check.end();
    }

    private void newObject() {
        WhoRules x = new WhoRules();
        for (int what = 0; what <= 9; what++) {
            check.due("count of a new object " + what, x.count(what), 0);
        }
        check.due("of(0, 0)", x.of(0, 0), -1);
        check.due("ruler(0, 0)", x.ruler(0, 0), -1);
        check.due("ring(-1)", x.ring(-1), 0);
        check.due("breaks()", x.breaks(), 0);
        check.due("step(0, -1)", x.step(0, -1), 0);
        check.due("carry(0, 0, 0)", x.carry(0, 0, 0), -1);
        check.due("motion(0, 0)", x.motion(0, 0), 0);
        check.due("motion(1, 0)", x.motion(1, 0), -2);
        check.due("found(1)", x.found(1), 0);
        for (int tape = 0; tape < 6; tape++) {
            check.due("a tape of a new object", x.item(tape, 0, 1), -11);
        }
        WhoRules other = new WhoRules();
        other.holder(FIRM, 0);
        check.due("another object's holders", x.count(1), 0);
    }

    private void pass() {
        WhoRules x = new WhoRules();
        check.due("pass(0)", x.pass(0), -2);
        check.due("pass(-1)", x.pass(-1), -2);
        check.due("pass(100)", x.pass(100), -2);
        check.due("pass(MAX)", x.pass(Integer.MAX_VALUE), -2);
        check.due("pass(MIN)", x.pass(Integer.MIN_VALUE), -2);
        check.due("pass(1)", x.pass(1), 1);
        for (int k = 1; k <= 10; k++) {
            check.due("pass(99)", x.pass(99), 1 + 99 * k);
        }
        check.due("pass(9) beyond", x.pass(9), -2);
        check.due("pass(8)", x.pass(8), 999);
        check.due("pass(1) beyond", x.pass(1), -2);
        check.due("count(0)", x.count(0), 999);
    }

    private void holder() {
        WhoRules x = new WhoRules();
        check.due("kind -1", x.holder(-1, 0), -1);
        check.due("kind 6", x.holder(6, 0), -1);
        check.due("family -1", x.holder(KIN, -1), -1);
        check.due("family 4", x.holder(KIN, 4), -1);
        check.due("a person's family does not matter", x.holder(PERSON, -7), 0);
        check.due("kin of family 3", x.holder(KIN, 3), 1);
        check.due("kin of family 0", x.holder(KIN, 0), 2);
        for (int k = 0; k < 7; k++) {
            check.due("firm", x.holder(FIRM, 99), 3 + k);
        }
        check.due("an eighth firm", x.holder(FIRM, 0), -4);
        check.due("firms", x.count(2), 7);
        for (int k = 10; k < 16; k++) {
            check.due("holder", x.holder(k % 2 == 0 ? 0 : 5, 0), k);
        }
        check.due("a seventeenth", x.holder(0, 0), -4);
        check.due("none ahead of full", x.holder(9, 0), -1);
        check.due("none ahead of full", x.holder(KIN, 4), -1);
        check.due("holders", x.count(1), 16);
        check.due("rulers", x.count(8), 3);
    }

    private void share() {
        WhoRules x = new WhoRules();
        x.holder(FIRM, 0);
        x.holder(PERSON, 0);
        x.holder(FIRM, 0);
        check.due("firm is a person", x.share(1, 1, 1, 1), -1);
        check.due("firm -1", x.share(-1, 1, 1, 1), -1);
        check.due("firm 3", x.share(3, 1, 1, 1), -1);
        check.due("holder 3", x.share(0, 3, 1, 1), -1);
        check.due("holder -1", x.share(0, -1, 1, 1), -1);
        check.due("none ahead of bad", x.share(0, 3, -1, 1), -1);
        check.due("parts -1", x.share(0, 1, -1, 1), -2);
        check.due("parts 13", x.share(0, 1, 13, 1), -2);
        check.due("votes -1", x.share(0, 1, 1, -1), -2);
        check.due("votes 100", x.share(0, 1, 1, 100), -2);
        check.due("all is left", x.share(0, 1, 7, 99), 0);
        check.due("more than 12", x.share(0, 1, 6, 0), -3);
        check.due("just 12", x.share(0, 1, 5, 0), 1);
        check.due("no part more", x.share(0, 1, 1, 0), -3);
        check.due("0 parts", x.share(0, 0, 0, 3), 2);
        check.due("another firm has its own 12", x.share(2, 0, 12, 3), 3);
        check.due("shares", x.count(3), 4);
    }

    private void shareFull() {
        WhoRules x = new WhoRules();
        x.holder(FIRM, 0);
        x.share(0, 0, 12, 0);
        for (int k = 1; k < 40; k++) {
            check.due("share", x.share(0, 0, 0, k), k);
        }
        check.due("a share too many", x.share(0, 0, 0, 1), -4);
        check.due("state ahead of full", x.share(0, 0, 1, 1), -3);
        check.due("bad ahead of state", x.share(0, 0, 13, 1), -2);
        check.due("of the last", x.of(39, 2), 39);
    }

    private void price() {
        WhoRules x = twoHolders();
        check.due("no such share", x.price(1, 1), -1);
        check.due("no such share", x.price(-1, 1), -1);
        check.due("none ahead of bad", x.price(1, -1), -1);
        check.due("price -1", x.price(0, -1), -2);
        check.due("price 1000", x.price(0, 1000), -2);
        check.due("price at first", x.price(0, 999), 0);
        check.due("price then", x.price(0, 7), 999);
        check.due("price then", x.price(0, 0), 7);
        check.due("price of share", x.of(0, 3), 0);
    }

    private static WhoRules twoHolders() {
        WhoRules x = new WhoRules();
        x.holder(FIRM, 0);
        x.holder(PERSON, 0);
        x.share(0, 1, 3, 4);
        return x;
    }

    private void sale() {
        WhoRules x = twoHolders();
        check.due("no such share", x.sale(1, 0), -1);
        check.due("no such share", x.sale(-1, 0), -1);
        check.due("no such holder", x.sale(0, 2), -1);
        check.due("no such holder", x.sale(0, -1), -1);
        check.due("it is that holder's", x.sale(0, 1), -3);
        check.due("nothing came of these", x.count(4), 0);
        check.due("sale", x.sale(0, 0), 1);
        check.due("it is that holder's now", x.sale(0, 0), -3);
        check.due("back again", x.sale(0, 1), 2);
        check.due("sales", x.count(4), 2);
    }

    private void saleFull() {
        WhoRules x = twoHolders();
        for (int k = 1; k <= 120; k++) {
            check.due("sale", x.sale(0, k % 2 == 1 ? 0 : 1), k);
        }
        check.due("a sale too many", x.sale(0, 0), -4);
        check.due("state ahead of full", x.sale(0, 1), -3);
        check.due("whose", x.held(0, 0, 0), 1);
        check.due("a share can still come", x.share(0, 0, 1, 1), 1);
        check.due("whose that is", x.held(1, 0, 0), 0);
        check.due("sales are still 120", x.count(4), 120);
    }

    private void of() {
        WhoRules x = new WhoRules();
        x.holder(PERSON, 0);
        x.holder(FIRM, 0);
        x.share(1, 0, 3, 4);
        x.price(0, 55);
        int[] due = {-1, 1, 3, 4, 55, -1};
        for (int what = -1; what <= 4; what++) {
            check.due("of(0, " + what + ")", x.of(0, what), due[what + 1]);
        }
        check.due("of(1, 0)", x.of(1, 0), -1);
        check.due("of(-1, 0)", x.of(-1, 0), -1);
    }

    private void held() {
        WhoRules x = new WhoRules();
        x.holder(FIRM, 0);
        x.holder(PERSON, 0);
        x.holder(PERSON, 0);
        x.pass(5);
        x.share(0, 1, 3, 4);
        x.pass(5);
        x.sale(0, 2);
        x.sale(0, 0);
        x.pass(10);
        x.sale(0, 2);
        int[][] due = {{0, -5, -5}, {4, -5, -5}, {5, 1, 5}, {9, 1, 5}, {10, 0, 10}, {19, 0, 10}, {20, 2, 20}, {999, 2, 20}};
        for (int[] d : due) {
            check.due("whose on " + d[0], x.held(0, d[0], 0), d[1]);
            check.due("since when on " + d[0], x.held(0, d[0], 1), d[2]);
        }
        check.due("no such day", x.held(0, 1000, 0), -1);
        check.due("no such day", x.held(0, -1, 0), -1);
        check.due("no such what", x.held(0, 0, 2), -1);
        check.due("no such what", x.held(0, 0, -1), -1);
        check.due("no such share", x.held(1, 0, 0), -1);
        check.due("no such share", x.held(-1, 0, 0), -1);
    }

    private void count() {
        WhoRules x = new WhoRules();
        x.pass(9);
        x.holder(FIRM, 0);
        x.holder(KIN, 1);
        x.holder(KIN, 1);
        x.holder(KIN, 2);
        x.holder(PERSON, 0);
        x.holder(FIRM, 0);
        x.holder(4, 0);
        x.share(0, 1, 1, 1);
        x.share(0, 1, 1, 1);
        x.share(5, 1, 1, 1);
        x.sale(0, 2);
        Texts.charter(x, 0, 0, "most 3");
        Texts.charter(x, 0, 0, "most 4");
        Texts.feed(x, "gold");
        x.motion(1, 0);
        x.act(1, 2, 3);
        int[] due = {9, 7, 2, 3, 1, 2, 4, 1, 3, 7};
        for (int what = 0; what <= 9; what++) {
            check.due("count(" + what + ")", x.count(what), due[what]);
        }
        check.due("count(-1)", x.count(-1), -2);
        check.due("count(10)", x.count(10), -2);
    }
}
