/** A mill and a bank that own parts of one another, and who rules them. */
public final class Example {
    private static final int FIRM = 1, PERSON = 2, KIN = 3;
    private static final int SHORTS = 1;

    private Example() {
    }

    public static void main(String[] args) {
        WhoRules x = new WhoRules();
        int mill = x.holder(FIRM, 0);
        int bank = x.holder(FIRM, 0);
        int anna = x.holder(PERSON, 0);
        int bert = x.holder(KIN, 3);
        int cleo = x.holder(KIN, 3);

        // A share: of a firm, a holder's, parts of 12, votes.
        int annas = x.share(mill, anna, 5, 40);
        int banks = x.share(mill, bank, 4, 30);
        x.share(bank, mill, 3, 20);
        x.share(bank, bert, 4, 30);
        x.share(bank, cleo, 5, 10);
        tell("4 more parts of the mill (STATE: only 3 are left)", x.share(mill, cleo, 4, 1));

        tell("ruler of the bank", x.ruler(bank, 0));
        tell("ruler of the mill", x.ruler(mill, 0));
        System.out.println("of the bank's coin comes to Anna: " + x.worth(bank, anna, 0) + "/" + x.worth(bank, anna, 1));
        tell("firms in the shortest ring", x.ring(-1));
        tell("ways of the others in which Anna turns a motion of the mill", x.pivot(mill, anna));

        // From day 10 on a motion of the mill needs more than 2/3 of the votes; after 8 days a share has twice its votes.
        feed(x, "need 2 3;old 8 2");
        int text = x.charter(mill, 10);
        tell("number of the text", text);
        tell("today", x.pass(10));
        tell("Anna's votes in the mill", x.votes(mill, anna, 10));
        tell("ruler of the mill (-5: none)", x.ruler(mill, 10));
        tell("ruler of the mill on day 9", x.ruler(mill, 9));

        // What Bert would buy to rule the mill: bit k is share k.
        x.price(annas, 70);
        x.price(banks, 50);
        tell("shares that Bert would buy", x.buy(bert, mill, 0));
        tell("their price", x.buy(bert, mill, 1));
        tell("sales so far", x.sale(annas, cleo));
        tell("ruler of the mill", x.ruler(mill, 10));

        // A proof is a row of shorts on a tape: a firm, a ruler, a firm, a ruler.
        x.tape(0, SHORTS, 4);
        x.item(0, 0, bank);
        x.item(0, 1, bert);
        x.item(0, 2, mill);
        x.item(0, 3, bert);
        tell("good pairs of the proof", x.proof(0, 0, 2));
    }

    /** A charter is fed byte by byte (up to four at once) before charter() reads it. */
    private static void feed(WhoRules x, String text) {
        for (int i = 0; i < text.length(); i++) {
            x.feed(text.charAt(i), 1);
        }
    }

    private static void tell(String what, long answer) {
        System.out.println(what + ": " + answer);
    }
}
