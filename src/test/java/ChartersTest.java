/** Promises 9 to 14: the text, charters, what is in force, votes, what carries. */
public final class ChartersTest {
    private static final int FIRM = 1, PERSON = 2, KIN = 3, FUND = 4, CLUB = 5;

    private final Check check = new Check("charters");

    public static void main(String[] args) {
        ChartersTest t = new ChartersTest();
        t.feed();
        t.charter();
        t.charterFull();
        t.whole();
        t.faults();
        t.force();
        t.sleep();
        t.tests();
        t.why();
        t.votes();
        t.votesOfDays();
        t.carry();
        t.carryGold();
        t.faultyTextsLeaveNothing();
        t.check.end();
    }

    private void feed() {
        WhoRules x = new WhoRules();
        x.holder(FIRM, 0);
        check.due("n -1", x.feed(0, -1), -2);
        check.due("n 5", x.feed(0, 5), -2);
        check.due("n 0", x.feed(77, 0), 0);
        check.due("four bytes", x.feed('m' << 24 | 'o' << 16 | 's' << 8 | 't', 4), 4);
        check.due("two of four bytes", x.feed('?' << 24 | '?' << 16 | ' ' << 8 | '1', 2), 6);
        check.due("one byte", x.feed(-256 | '2', 1), 7);
        check.due("three bytes", x.feed(';' << 16 | 'o' << 8 | 'l', 3), 10);
        check.due("bytes", x.count(6), 10);
        Texts.feed(x, "d 1 2");
        check.due("the text is as it was fed", x.charter(0, 0), 0);
        check.due("most", x.force(0, 1, 0, 0), 12);
        check.due("old", x.force(0, 2, 0, 0), 1002);
        for (int k = 1; k <= 24; k++) {
            check.due("feed", x.feed(0, 4), 4 * k);
        }
        check.due("three more", x.feed(0, 3), 99);
        check.due("two too many", x.feed(0, 2), -4);
        check.due("bad ahead of full", x.feed(0, 5), -2);
        check.due("the last", x.feed(0, 1), 100);
        check.due("none more", x.feed(0, 0), 100);
        check.due("one too many", x.feed(0, 1), -4);
        check.due("bytes", x.count(6), 100);
    }

    private void charter() {
        WhoRules x = new WhoRules();
        x.holder(FIRM, 0);
        x.holder(PERSON, 0);
        Texts.feed(x, "most 7");
        check.due("a person has none", x.charter(1, 0), -1);
        check.due("no such firm", x.charter(2, 0), -1);
        check.due("no such firm", x.charter(-1, 0), -1);
        check.due("none ahead of bad", x.charter(1, -1), -1);
        check.due("day -1", x.charter(0, -1), -2);
        check.due("day 1000", x.charter(0, 1000), -2);
        check.due("the text stays", x.count(6), 6);
        check.due("day 999", x.charter(0, 999), 0);
        check.due("the text is empty then", x.count(6), 0);
        check.due("an empty text", x.charter(0, 0), -10);
        check.due("a fault", Texts.charter(x, 0, 0, "most 7 "), -16);
        check.due("a faulty text is gone, too", x.count(6), 0);
        check.due("texts", x.count(5), 1);
        check.due("the next one", Texts.charter(x, 0, 0, "most 1"), 1);
    }

    private void charterFull() {
        WhoRules x = new WhoRules();
        x.holder(FIRM, 0);
        for (int c = 0; c < 20; c++) {
            check.due("charter", Texts.charter(x, 0, c, "gold " + c), c);
        }
        Texts.feed(x, "gold");
        check.due("bad ahead of full", x.charter(0, 1000), -2);
        check.due("a charter too many", x.charter(0, 0), -4);
        check.due("the text stays", x.count(6), 4);
        check.due("texts", x.count(5), 20);
        check.due("in force", x.force(0, 3, 999, 0), 19);
    }

    private static int read(String text) {
        WhoRules x = new WhoRules();
        x.holder(FIRM, 0);
        return Texts.charter(x, 0, 0, text);
    }

    private void whole() {
        String[] texts = {
            "need 1 2", "need 0 1", "need 000 001", "need 999 010", "most 0", "old 0 0", "gold 999", "sleep k=1",
            "sleep k=1|h<2&d>3", "sleep !k=1", "sleep !!!!p=1", "sleep ((((v=1))))", "sleep (!(!v=1))",
            "sleep (k=1)&(k=2)|!k=3&!(p=1|p=2)", "most 1;most 2;most 3;most 4;most 5;most 6",
            "sleep ((((k=1)|(k=2))&(k=3))|!(!k=4))", "need 1 2;most 3;old 4 5;gold 6;sleep v>9",
        };
        for (String text : texts) {
            check.due(text, read(text), 0);
        }
    }

    private void faults() {
        Object[][] due = {
            {"", 0}, {"x", 0}, {"n 1 2", 1}, {"sleek k=1", 4}, {" need 1 2", 0}, {"n", 1}, {"nest", 2}, {"mold", 2}, {"olds", 3}, {"gold", 4},
            {"sleep", 5}, {"sleep ", 6}, {"sleepk", 5}, {"need  1 2", 5}, {"need 1", 6}, {"need 1 ", 7}, {"need 1  2", 7},
            {"need 1 0", 8}, {"need 1 00", 9}, {"need 1 000", 9}, {"need 1 0;", 8}, {"need 1 0x", 8}, {"need 1 00 ", 9},
            {"need 1 1234", 10}, {"need 1234 1", 8}, {"need -1 2", 5}, {"need 1,2", 6}, {"most 1 2", 6}, {"old 3", 5},
            {"old 3;", 5}, {"gold 1;", 7}, {"gold 1;;", 7}, {"gold 1;x", 7}, {"gold 1 ", 6}, {"gold 12;golf", 11},
            {"most 1;most 2;most 3;most 4;most 5;most 6;", 41}, {"most 1;most 2;most 3;most 4;most 5;most 6;most 7", 41},
            {"sleep k", 7}, {"sleep k=", 8}, {"sleep k=x", 8}, {"sleep k==1", 8}, {"sleep k<=1", 8}, {"sleep q=1", 6},
            {"sleep k=1)", 9}, {"sleep (k=1", 10}, {"sleep (k=1;", 10}, {"sleep k=1|", 10}, {"sleep k=1&", 10},
            {"sleep k=1||k=2", 10}, {"sleep k=1 |k=2", 9}, {"sleep k=1| k=2", 10}, {"sleep ()", 7}, {"sleep !", 7},
            {"sleep k=1234", 11}, {"sleep !!!!!k=1", 10}, {"sleep (((((k=1)))))", 10}, {"sleep !(!(!k=1))", 10},
            {"sleep ((!(!k=1)))", 10}, {"sleep ((((!k=1))))", 10}, {"sleep k!1", 7}, {"sleep 1=k", 6}, {"SLEEP k=1", 0},
        };
        for (Object[] d : due) {
            check.due("\"" + d[0] + "\"", read((String) d[0]), -10 - (int) d[1]);
        }
        check.due("a byte above 127", read("most 1" + (char) 255), -16);
        StringBuilder longest = new StringBuilder("sleep k=1");
        while (longest.length() < 96) {
            longest.append("|k=1");
        }
        check.due("a long text", read(longest.toString()), 0);
        check.due("a full text that ends too early", read(longest + "|k="), -110);
        check.due("a full text with a fault near its end", read(longest + "|0="), -108);
    }

    private void force() {
        WhoRules x = new WhoRules();
        x.holder(FIRM, 0);
        x.holder(FIRM, 0);
        x.holder(PERSON, 0);
        int[] bare = {1002, 999, 999001, -5};
        for (int word = 0; word < 4; word++) {
            check.due("without any " + word, x.force(0, word, 0, -9), bare[word]);
        }
        check.due("no such share", x.force(0, 4, 0, 0), -1);
        x.share(1, 2, 1, 1);
        check.due("no votes sleep", x.force(0, 4, 0, 0), 0);
        Texts.charter(x, 0, 5, "need 2 3;most 40;old 6 7;gold 9;need 3 4");
        Texts.charter(x, 0, 3, "need 1 1;gold 1");
        Texts.charter(x, 0, 5, "most 50");
        Texts.charter(x, 1, 0, "most 60");
        int[][] due = {{2, 1002, 999, 999001, -5}, {3, 1001, 999, 999001, 1}, {4, 1001, 999, 999001, 1},
            {5, 3004, 50, 6007, 9}, {999, 3004, 50, 6007, 9}};
        for (int[] d : due) {
            for (int word = 0; word < 4; word++) {
                check.due("day " + d[0] + " word " + word, x.force(0, word, d[0], 0), d[word + 1]);
            }
        }
        check.due("another firm", x.force(1, 1, 5, 0), 60);
        check.due("another firm", x.force(1, 0, 5, 0), 1002);
        check.due("no firm", x.force(2, 0, 0, 0), -1);
        check.due("no firm", x.force(-1, 0, 0, 0), -1);
        check.due("no word", x.force(0, 5, 0, 0), -1);
        check.due("no word", x.force(0, -1, 0, 0), -1);
        check.due("none ahead of bad", x.force(0, 5, -1, 0), -1);
        check.due("none ahead of bad", x.force(0, 4, -1, 1), -1);
        check.due("no day", x.force(0, 0, -1, 0), -2);
        check.due("no day", x.force(0, 0, 1000, 0), -2);
    }

    private void sleep() {
        WhoRules x = new WhoRules();
        x.holder(FIRM, 0);
        x.holder(KIN, 2);
        x.holder(CLUB, 0);
        x.holder(FIRM, 0);
        x.pass(10);
        x.share(0, 1, 3, 20);
        x.share(3, 2, 0, 5);
        Texts.charter(x, 0, 0, "sleep k=3&d>4|h=2");
        check.due("ahead of its day", x.force(0, 4, 9, 0), 0);
        check.due("its first days", x.force(0, 4, 14, 0), 0);
        check.due("five days later", x.force(0, 4, 15, 0), 1);
        check.due("a share in another firm", x.force(0, 4, 10, 1), 1);
        check.due("nobody's", x.force(0, 4, 9, 1), 0);
        check.due("by the other firm's charter", x.force(3, 4, 15, 1), 0);
        check.due("votes awake", x.votes(0, 1, 14), 20);
        check.due("votes asleep", x.votes(0, 1, 15), 0);
        x.pass(10);
        x.sale(0, 0);
        check.due("sold", x.force(0, 4, 30, 0), 0);
        Texts.charter(x, 0, 25, "sleep k=1;sleep k=2");
        check.due("the last clause", x.force(0, 4, 30, 0), 0);
    }

    private void tests() {
        Object[][] due = {
            {"k=3", 1}, {"k=2", 0}, {"k<4", 1}, {"k>3", 0}, {"h=1", 1}, {"h>1", 0}, {"h<2", 1}, {"d=7", 1}, {"d<7", 0},
            {"d>6", 1}, {"p=3", 1}, {"p<3", 0}, {"p>2", 1}, {"v=20", 1}, {"v>20", 0}, {"v<21", 1}, {"v=020", 1},
            {"!k=3", 0}, {"!!k=3", 1}, {"k=3&h=2", 0}, {"k=3&h=1", 1}, {"k=2|h=1", 1}, {"k=2|h=2", 0},
            {"k=3|h=2&d=0", 1}, {"(k=3|h=2)&d=0", 0}, {"h=2&d=0|k=3", 1}, {"h=2&(d=0|k=3)", 0}, {"!h=2&k=3", 1},
            {"!(h=2&k=3)", 1}, {"!(h=1&k=3)", 0}, {"!h=1|k=3", 1}, {"!(h=1|k=2)", 0}, {"h=1&k=3&d=7&p=3&v=20", 1},
            {"h=0|k=0|d=0|p=0|v=0", 0}, {"k<0", 0}, {"!k<0", 1}, {"k=3|k<0", 1}, {"k<0|k=3", 1}, {"k=3&k<0", 0},
            {"k=3|h=1", 1}, {"k=2|h=2|d=7|p=3", 1}, {"k=3&(k<0|d=7)&p=3", 1}, {"h=0|k=0|d=0|p=0|v=20", 1}, {"((h=1&!(k=2)))|p=9", 1},
        };
        for (Object[] d : due) {
            WhoRules x = new WhoRules();
            x.holder(FIRM, 0);
            x.holder(KIN, 2);
            x.share(0, 1, 3, 20);
            check.due("charter " + d[0], Texts.charter(x, 0, 0, "gold 1;sleep " + d[0] + ";most 99"), 0);
            check.due((String) d[0], x.force(0, 4, 7, 0), (int) d[1]);
        }
    }

    private void why() {
        WhoRules x = new WhoRules();
        x.holder(FIRM, 0);
        x.holder(FIRM, 0);
        x.holder(PERSON, 0);
        Texts.charter(x, 0, 4, "need 1 2;most 3;need 3 4");
        Texts.charter(x, 1, 0, "gold 1");
        Texts.charter(x, 0, 2, "gold 1;most 4");
        Texts.charter(x, 0, 4, "old 1 2;sleep k=1;most 8");
        int[][] due = {{1, -5, -5, -5, -5, -5}, {2, -5, 201, -5, 200, -5}, {4, 2, 302, 300, 200, 301}, {999, 2, 302, 300, 200, 301}};
        for (int[] d : due) {
            for (int word = 0; word < 5; word++) {
                check.due("why " + word + " on " + d[0], x.why(0, word, d[0]), d[word + 1]);
            }
        }
        check.due("another firm", x.why(1, 3, 0), 100);
        WhoRules first = new WhoRules();
        first.holder(FIRM, 0);
        Texts.charter(first, 0, 0, "gold 1");
        check.due("text 0, clause 0", first.why(0, 3, 0), 0);
        check.due("no firm", x.why(2, 0, 0), -1);
        check.due("no firm", x.why(-1, 0, 0), -1);
        check.due("no word", x.why(0, 5, 0), -1);
        check.due("no word", x.why(0, -1, 0), -1);
        check.due("none ahead of bad", x.why(0, 5, 1000), -1);
        check.due("no day", x.why(0, 0, -1), -2);
        check.due("no day", x.why(0, 0, 1000), -2);
    }

    private void votes() {
        WhoRules x = new WhoRules();
        x.holder(FIRM, 0);
        x.holder(PERSON, 0);
        x.holder(FUND, 0);
        x.holder(CLUB, 0);
        x.holder(0, 0);
        x.holder(FIRM, 0);
        for (int h = 0; h < 6; h++) {
            x.share(0, h, 1, 10 + h);
        }
        x.share(0, 1, 0, 99);
        x.share(5, 1, 0, 77);
        int[] due = {0, 110, 0, 0, 14, 15};
        for (int h = 0; h < 6; h++) {
            check.due("votes of " + h, x.votes(0, h, 0), due[h]);
        }
        check.due("in the other firm", x.votes(5, 1, 0), 77);
        check.due("no firm", x.votes(1, 1, 0), -1);
        check.due("no firm", x.votes(-1, 1, 0), -1);
        check.due("no holder", x.votes(0, 6, 0), -1);
        check.due("no holder", x.votes(0, -1, 0), -1);
        check.due("no day", x.votes(0, 1, -1), -1);
        check.due("no day", x.votes(0, 1, 1000), -1);
    }

    private void votesOfDays() {
        WhoRules x = new WhoRules();
        x.holder(FIRM, 0);
        x.holder(PERSON, 0);
        x.holder(PERSON, 0);
        x.pass(10);
        x.share(0, 1, 1, 40);
        x.share(0, 1, 1, 2);
        x.pass(5);
        x.sale(1, 2);
        check.due("ahead of all", x.votes(0, 1, 9), 0);
        check.due("of both", x.votes(0, 1, 10), 42);
        check.due("of both", x.votes(0, 1, 14), 42);
        check.due("of one", x.votes(0, 1, 15), 40);
        check.due("of the other", x.votes(0, 2, 15), 2);
        Texts.charter(x, 0, 0, "old 4 3;most 120");
        check.due("not yet old", x.votes(0, 1, 13), 42);
        check.due("most", x.votes(0, 1, 14), 120);
        check.due("just as old", x.votes(0, 1, 15), 120);
        check.due("not yet old", x.votes(0, 2, 18), 2);
        check.due("old", x.votes(0, 2, 19), 6);
        Texts.charter(x, 0, 20, "old 0 0");
        check.due("none of the old", x.votes(0, 1, 20), 0);
        Texts.charter(x, 0, 21, "old 999 5;most 30");
        check.due("bounded by 30", x.votes(0, 1, 21), 30);
        check.due("all together 999 at most", votesOfMany(), 999);
    }

    private static int votesOfMany() {
        WhoRules x = new WhoRules();
        x.holder(FIRM, 0);
        x.holder(PERSON, 0);
        for (int k = 0; k < 11; k++) {
            x.share(0, 1, 0, 99);
        }
        return x.votes(0, 1, 0);
    }

    private void carry() {
        WhoRules x = new WhoRules();
        x.holder(FIRM, 0);
        x.holder(PERSON, 0);
        x.holder(PERSON, 0);
        x.holder(FIRM, 0);
        x.share(0, 1, 1, 10);
        x.share(0, 2, 1, 5);
        x.share(0, 3, 1, 5);
        check.due("just half", x.carry(0, 2, 0), 0);
        check.due("more than half", x.carry(0, 6, 0), 1);
        check.due("all", x.carry(0, 15, 0), 1);
        check.due("none", x.carry(0, 0, 0), 0);
        check.due("no votes at all", x.carry(3, 15, 0), 0);
        check.due("no firm", x.carry(1, 2, 0), -1);
        check.due("no firm", x.carry(4, 2, 0), -1);
        check.due("no day", x.carry(0, 2, 1000), -1);
        check.due("no day", x.carry(0, 2, -1), -1);
        check.due("none ahead of bad", x.carry(0, 16, -1), -1);
        check.due("no such holder", x.carry(0, 16, 0), -2);
        check.due("no such holder", x.carry(0, -1, 0), -2);
        check.due("no such holder", x.carry(0, Integer.MIN_VALUE, 0), -2);
        Texts.charter(x, 0, 1, "need 3 4");
        check.due("half is not three quarters", x.carry(0, 6, 1), 0);
        check.due("all are", x.carry(0, 14, 1), 1);
        check.due("the day ahead", x.carry(0, 6, 0), 1);
        Texts.charter(x, 0, 2, "need 0 1");
        check.due("any vote", x.carry(0, 4, 2), 1);
        check.due("no vote", x.carry(0, 1, 2), 0);
        Texts.charter(x, 0, 3, "need 1 1");
        check.due("never", x.carry(0, 15, 3), 0);
    }

    private void faultyTextsLeaveNothing() {
        WhoRules x = new WhoRules();
        x.holder(FIRM, 0);
        x.holder(PERSON, 0);
        x.share(0, 1, 1, 1);
        check.due("a charter", Texts.charter(x, 0, 0, "sleep k=2"), 0);
        check.due("a fault", Texts.charter(x, 0, 0, "sleep k=1&k=2;most 4;gold 2;"), -38);
        check.due("asleep still", x.force(0, 4, 0, 0), 1);
        check.due("no gold", x.force(0, 3, 0, 0), -5);
        check.due("the next charter", Texts.charter(x, 0, 0, "old 1 2"), 1);
        check.due("asleep still", x.why(0, 4, 0), 0);
        check.due("old", x.why(0, 2, 0), 100);
        check.due("most", x.why(0, 1, 0), -5);
    }

    private void carryGold() {
        WhoRules x = new WhoRules();
        x.holder(FIRM, 0);
        x.holder(PERSON, 0);
        x.holder(FUND, 0);
        x.share(0, 1, 1, 10);
        Texts.charter(x, 0, 0, "gold 2");
        check.due("without the gold", x.carry(0, 2, 0), 0);
        check.due("with it", x.carry(0, 6, 0), 1);
        check.due("the gold alone", x.carry(0, 4, 0), 0);
        Texts.charter(x, 0, 1, "gold 3");
        check.due("a gold of none", x.carry(0, 2, 1), 1);
        check.due("its number all the same", x.force(0, 3, 1, 0), 3);
        x.holder(PERSON, 0);
        check.due("a gold of one now", x.carry(0, 2, 1), 0);
        check.due("with that", x.carry(0, 10, 1), 1);
        Texts.charter(x, 0, 2, "gold 0");
        check.due("gold 0", x.carry(0, 2, 2), 0);
        check.due("with holder 0", x.carry(0, 3, 2), 1);
        WhoRules y = new WhoRules();
        y.holder(PERSON, 0);
        y.holder(FIRM, 0);
        y.share(1, 0, 1, 1);
        check.due("of holder 0", y.carry(1, 1, 0), 1);
        check.due("of the firm", y.carry(1, 2, 0), 0);
        check.due("asleep at holder 0", Texts.charter(y, 1, 0, "sleep h=0"), 0);
        check.due("asleep at holder 0", y.force(1, 4, 0, 0), 1);
    }
}
