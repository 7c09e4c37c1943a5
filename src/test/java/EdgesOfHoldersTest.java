/** The edges that promises 1 to 8 and 34 name, sentence by sentence: holders, shares, sales, days, counts. */
public final class EdgesOfHoldersTest {
    private static final long NO = Long.MIN_VALUE;
    /** Firm 0, person 1. */
    private static final String TWO = "holder(1,0) holder(2,0) ";
    /** Firm 0, person 1, and share 0 of 1 in 0. */
    private static final String ONE_SHARE = TWO + "share(0,1,3,4) ";
    private static final String SIXTEEN = "16*holder(2,0) ";
    private static final String LAST_DAY = "10*pass(99) pass(9) ";

    private final Edges edges = new Edges("edges of holders");

    public static void main(String[] args) {
        EdgesOfHoldersTest t = new EdgesOfHoldersTest();
        t.newObject();
        t.pass();
        t.holderKinds();
        t.holderFull();
        t.shareNumbers();
        t.shareParts();
        t.shareFull();
        t.price();
        t.sale();
        t.saleFull();
        t.of();
        t.held();
        t.heldOnDays();
        t.count();
        t.edges.end();
    }

    private void newObject() {
        edges.of(1);
        edges.due("no HOLDERS", "", "count(1)", 0, "count(2)", 0, "count(8)", 0, "taken(0,0)", -11, "ruler(0,0)", -1,
                "hollow(0)", -1, "worth(0,0,0)", NO, "pivot(0,0)", -1, "free(0)", NO, "all(0,-1,0)", -1, "motion(1,0)", -2);
        edges.due("no SHARES", "", "count(3)", 0, "of(0,0)", -1, "held(0,0,0)", -1, "price(0,0)", -1, "sold(0)", -1,
                "count(4)", 0, "ring(-1)", 0, "ring(0)", -1, "breaks()", 0);
        edges.due("TODAY is 0 at first", "", "count(0)", 0, "pass(1)", 1);
        edges.due("no charters, THE TEXT is empty", "", "count(5)", 0, "count(6)", 0, "feed(0,0)", 0);
        edges.due("no MOTIONS", "", "count(7)", 0, "found(1)", 0, "motion(0,0)", 0);
        edges.due("no TRACE", "", "count(9)", 0, "trace(0)", -1);
        edges.due("TAPES hold nothing (at first)", "", "item(0,0,1)", -11, "item(5,0,1)", -11, "read(0,0)", NO, "read(5,0)", NO,
                "shift(0,0,5,0,0)", -11);
        edges.due("no STEPS", "", "step(0,-1)", 0, "step(0,0)", -1);
        edges.due("PRICE 0 at first", ONE_SHARE, "of(0,3)", 0);
    }

    private void pass() {
        edges.of(2);
        edges.due("1 .. 99, the first", "", "pass(1)", 1, "count(0)", 1);
        edges.due("1 .. 99, the last", "", "pass(99)", 99, "count(0)", 99);
        edges.due("BAD: 0", "pass(5)", "pass(0)", -2, "count(0)", 5);
        edges.due("BAD: 100", "pass(5)", "pass(100)", -2, "count(0)", 5);
        edges.due("BAD: below 0", "pass(5)", "pass(-1)", -2, "pass(-5)", -2, "pass(MIN)", -2, "count(0)", 5);
        edges.due("BAD: far beyond", "pass(5)", "pass(MAX)", -2, "pass(1000)", -2, "count(0)", 5);
        edges.due("up to 999", "10*pass(99)", "count(0)", 990, "pass(9)", 999, "count(0)", 999);
        edges.due("BAD: beyond 999", "10*pass(99)", "pass(10)", -2, "pass(99)", -2, "count(0)", 990, "pass(8)", 998, "pass(2)", -2,
                "pass(1)", 999);
        edges.due("BAD: beyond 999 by one", LAST_DAY, "pass(1)", -2, "pass(99)", -2, "pass(MAX)", -2, "count(0)", 999);
        edges.due("99 up to 999", "9*pass(99) pass(9)", "count(0)", 900, "pass(99)", 999);
        edges.due("99 beyond 999", "9*pass(99) pass(10)", "pass(99)", -2, "pass(98)", 999);
    }

    private void holderKinds() {
        edges.of(3);
        edges.due("KINDS 0 to 5, as they come", "", "holder(0,0)", 0, "holder(1,0)", 1, "holder(2,0)", 2, "holder(3,0)", 3,
                "holder(4,0)", 4, "holder(5,0)", 5, "taken(0,0)", 0, "taken(1,0)", 1, "taken(2,0)", 2, "taken(3,0)", 3,
                "taken(4,0)", 4, "taken(5,0)", 5, "count(1)", 6);
        edges.due("NONE: kind below 0", TWO, "holder(-1,0)", -1, "holder(MIN,0)", -1, "count(1)", 2);
        edges.due("NONE: kind above 5", TWO, "holder(6,0)", -1, "holder(MAX,0)", -1, "count(1)", 2);
        edges.due("a FAMILY 0 .. 3", "", "holder(3,0)", 0, "holder(3,1)", 1, "holder(3,2)", 2, "holder(3,3)", 3, "count(8)", 4,
                "act(0,2,0)", 0, "act(3,2,0)", -3);
        edges.due("NONE: family below 0", TWO, "holder(3,-1)", -1, "holder(3,MIN)", -1, "count(1)", 2);
        edges.due("NONE: family above 3", TWO, "holder(3,4)", -1, "holder(3,MAX)", -1, "count(1)", 2);
        edges.due("of others it does not matter", "", "holder(0,-1)", 0, "holder(1,4)", 1, "holder(2,MIN)", 2, "holder(4,MAX)", 3,
                "holder(5,99)", 4, "count(1)", 5);
        edges.due("of others it does not matter: f is 0 without", "holder(0,3) holder(1,3) holder(2,3) holder(4,3) holder(5,3)",
                "act(0,2,0)", 0, "act(1,2,0)", ((1 ^ 6) * 2) + (2 ^ 6), "act(2,2,0)", 4, "act(3,2,0)", 0, "act(4,2,0)", 4);
        edges.due("of others it does not matter: no KIN of one FAMILY", "holder(3,1) holder(2,1) holder(2,1)", "count(8)", 3);
    }

    private void holderFull() {
        edges.of(3);
        edges.due("HOLDERS 0 .. 15, the last", "15*holder(2,0)", "holder(2,0)", 15, "count(1)", 16);
        edges.due("FULL", SIXTEEN, "holder(2,0)", -4, "holder(0,0)", -4, "holder(1,0)", -4, "holder(3,3)", -4, "holder(4,0)", -4,
                "holder(5,0)", -4, "count(1)", 16, "count(2)", 0, "count(8)", 16, "taken(16,0)", -11);
        edges.due("NONE ahead of FULL", SIXTEEN, "holder(-1,0)", -1, "holder(6,0)", -1, "holder(3,-1)", -1, "holder(3,4)", -1);
        edges.due("FIRMS: 7 at most, the last", "6*holder(1,0)", "holder(1,0)", 6, "count(2)", 7, "ruler(6,0)", -5);
        edges.due("FULL (FIRMS, too)", "7*holder(1,0)", "holder(1,0)", -4, "count(1)", 7, "count(2)", 7);
        edges.due("7 FIRMS, others come", "7*holder(1,0)", "holder(1,0)", -4, "holder(0,0)", 7, "holder(2,0)", 8, "holder(3,0)", 9,
                "holder(4,0)", 10, "holder(5,0)", 11, "holder(1,0)", -4, "count(1)", 12);
        edges.due("a FIRM is told by its number as a HOLDER", "9*holder(2,0) 7*holder(1,0)", "ruler(15,0)", -5, "ruler(9,0)", -5,
                "ruler(8,0)", -1, "ruler(0,0)", -1, "share(15,0,1,1)", 0, "share(0,0,1,1)", -1, "of(0,0)", 15);
    }

    private void shareNumbers() {
        edges.of(4);
        edges.due("NONE: firm", ONE_SHARE, "share(-1,1,1,1)", -1, "share(2,1,1,1)", -1, "share(MIN,1,1,1)", -1,
                "share(MAX,1,1,1)", -1, "count(3)", 1);
        edges.due("NONE: firm, one that is no FIRM", ONE_SHARE + "holder(0,0) holder(3,0) holder(4,0) holder(5,0)",
                "share(1,1,1,1)", -1, "share(2,1,1,1)", -1, "share(3,1,1,1)", -1, "share(4,1,1,1)", -1, "share(5,1,1,1)", -1,
                "count(3)", 1);
        edges.due("NONE: holder", ONE_SHARE, "share(0,-1,1,1)", -1, "share(0,2,1,1)", -1, "share(0,MIN,1,1)", -1,
                "share(0,MAX,1,1)", -1, "count(3)", 1);
        edges.due("a SHARE of a HOLDER of each KIND", TWO + "holder(0,0) holder(3,0) holder(4,0) holder(5,0)", "share(0,0,1,1)", 0,
                "share(0,1,1,1)", 1, "share(0,2,1,1)", 2, "share(0,3,1,1)", 3, "share(0,4,1,1)", 4, "share(0,5,1,1)", 5);
        edges.due("VOTES 0 .. 99", TWO, "share(0,1,0,0)", 0, "share(0,1,0,99)", 1, "of(0,2)", 0, "of(1,2)", 99, "votes(0,1,0)", 99);
        edges.due("BAD: votes below 0", ONE_SHARE, "share(0,1,1,-1)", -2, "share(0,1,1,MIN)", -2, "count(3)", 1);
        edges.due("BAD: votes above 99", ONE_SHARE, "share(0,1,1,100)", -2, "share(0,1,1,MAX)", -2, "count(3)", 1);
        edges.due("PARTS 0 .. 12", TWO, "share(0,1,0,1)", 0, "share(0,1,12,1)", 1, "of(0,1)", 0, "of(1,1)", 12);
        edges.due("BAD: parts below 0", ONE_SHARE, "share(0,1,-1,1)", -2, "share(0,1,MIN,1)", -2, "count(3)", 1);
        edges.due("BAD: parts above 12", TWO, "share(0,1,13,1)", -2, "share(0,1,MAX,1)", -2, "count(3)", 0);
        edges.due("NONE ahead of BAD", ONE_SHARE, "share(1,1,-1,1)", -1, "share(0,2,13,1)", -1, "share(0,-1,1,100)", -1,
                "share(9,1,1,-1)", -1);
    }

    private void shareParts() {
        edges.of(4);
        edges.due("12 at most together", TWO + "share(0,1,7,1)", "share(0,1,5,1)", 1, "count(3)", 2);
        edges.due("STATE: more than 12 PARTS", TWO + "share(0,1,7,1)", "share(0,1,6,1)", -3, "count(3)", 1, "share(0,0,5,1)", 1,
                "share(0,1,1,1)", -3, "share(0,1,12,1)", -3);
        edges.due("0 PARTS come to a full FIRM", TWO + "share(0,1,12,1)", "share(0,1,1,1)", -3, "share(0,1,0,1)", 1);
        edges.due("PARTS of a FIRM, not of another", TWO + "holder(1,0) share(0,1,12,1)", "share(2,1,12,1)", 1, "share(2,1,1,1)", -3);
        edges.due("all PARTS of a FIRM, whoever has them", TWO + "share(0,0,6,1) share(0,1,5,1) sale(1,0)", "share(0,1,2,1)", -3,
                "share(0,1,1,1)", 2);
        edges.due("BAD ahead of STATE", TWO + "share(0,1,12,1)", "share(0,1,13,1)", -2, "share(0,1,1,100)", -2, "share(0,1,1,1)", -3);
        edges.due("NONE ahead of STATE", TWO + "share(0,1,12,1)", "share(1,1,1,1)", -1, "share(0,2,1,1)", -1);
        edges.due("what is left to 12 is nobody's", TWO + "share(0,1,11,1)", "worth(0,1,0)", 11, "worth(0,1,1)", 12, "hollow(0)", 0);
    }

    private void shareFull() {
        edges.of(4);
        edges.due("SHARES 0 .. 39, the last", TWO + "39*share(0,1,0,2)", "share(0,1,12,3)", 39, "of(39,1)", 12, "count(3)", 40,
                "votes(0,1,0)", 81);
        edges.due("FULL", TWO + "40*share(0,1,0,2)", "share(0,1,0,2)", -4, "share(0,0,12,0)", -4, "count(3)", 40, "of(40,0)", -1);
        edges.due("STATE ahead of FULL", TWO + "share(0,1,12,2) 39*share(0,1,0,2)", "share(0,1,1,2)", -3, "share(0,1,0,2)", -4);
        edges.due("BAD ahead of FULL", TWO + "40*share(0,1,0,2)", "share(0,1,13,2)", -2, "share(0,1,0,-1)", -2);
        edges.due("NONE ahead of FULL", TWO + "40*share(0,1,0,2)", "share(1,1,0,2)", -1, "share(0,2,0,2)", -1);
    }

    private void price() {
        edges.of(5);
        edges.due("what it was: 0 at first", ONE_SHARE, "price(0,5)", 0, "price(0,6)", 5, "of(0,3)", 6);
        edges.due("a PRICE (0 .. 999), the first", ONE_SHARE + "price(0,5)", "price(0,0)", 5, "of(0,3)", 0);
        edges.due("a PRICE (0 .. 999), the last", ONE_SHARE, "price(0,999)", 0, "of(0,3)", 999, "price(0,999)", 999);
        edges.due("BAD: below 0", ONE_SHARE + "price(0,5)", "price(0,-1)", -2, "price(0,MIN)", -2, "of(0,3)", 5);
        edges.due("BAD: above 999", ONE_SHARE + "price(0,5)", "price(0,1000)", -2, "price(0,MAX)", -2, "of(0,3)", 5);
        edges.due("NONE", ONE_SHARE, "price(-1,5)", -1, "price(1,5)", -1, "price(MIN,5)", -1, "price(MAX,5)", -1, "of(0,3)", 0);
        edges.due("NONE ahead of BAD", ONE_SHARE, "price(-1,-1)", -1, "price(1,1000)", -1);
        edges.due("of the last SHARE", TWO + "40*share(0,1,0,2)", "price(39,7)", 0, "price(40,7)", -1, "of(39,3)", 7, "of(38,3)", 0);
    }

    private void sale() {
        edges.of(6);
        edges.due("how many there are", ONE_SHARE + "share(0,0,1,1)", "sale(0,0)", 1, "sale(1,1)", 2, "sale(0,1)", 3, "count(4)", 3);
        edges.due("NONE: share", ONE_SHARE, "sale(-1,0)", -1, "sale(1,0)", -1, "sale(MIN,0)", -1, "sale(MAX,0)", -1, "count(4)", 0);
        edges.due("NONE: holder", ONE_SHARE, "sale(0,-1)", -1, "sale(0,2)", -1, "sale(0,MIN)", -1, "sale(0,MAX)", -1,
                "held(0,0,0)", 1, "count(4)", 0);
        edges.due("STATE: it is that HOLDER's", ONE_SHARE, "sale(0,1)", -3, "count(4)", 0, "sale(0,0)", 1, "sale(0,0)", -3,
                "sale(0,1)", 2, "sale(0,1)", -3);
        edges.due("STATE changes nothing", ONE_SHARE + "pass(7)", "sale(0,1)", -3, "held(0,7,1)", 0);
        edges.due("NONE ahead of STATE", ONE_SHARE, "sale(1,1)", -1, "sale(-1,-1)", -1);
        edges.due("TODAY", ONE_SHARE + "pass(7)", "sale(0,0)", 1, "held(0,6,0)", 1, "held(0,7,0)", 0, "held(0,7,1)", 7);
        edges.due("to a HOLDER of each KIND", ONE_SHARE + "holder(0,0) holder(3,0) holder(4,0) holder(5,0)", "sale(0,0)", 1,
                "sale(0,2)", 2, "sale(0,3)", 3, "sale(0,4)", 4, "sale(0,5)", 5, "sale(0,1)", 6);
    }

    private void saleFull() {
        edges.of(6);
        String most = ONE_SHARE + "share(0,1,1,1) 59*{sale(0,0) sale(0,1)} sale(0,0) ";
        edges.due("120 of all at most, the last", most, "sale(0,1)", 120, "count(4)", 120, "held(0,0,0)", 1);
        edges.due("120 of all, of another SHARE", most, "sale(1,0)", 120, "sale(0,1)", -4, "count(4)", 120, "held(0,0,0)", 0);
        edges.due("FULL", most + "sale(0,1)", "sale(0,0)", -4, "sale(1,0)", -4, "count(4)", 120, "held(0,0,0)", 1, "held(1,0,0)", 1);
        edges.due("STATE ahead of FULL", most + "sale(0,1)", "sale(0,1)", -3, "sale(1,1)", -3);
        edges.due("NONE ahead of FULL", most + "sale(0,1)", "sale(2,0)", -1, "sale(0,2)", -1);
        edges.due("SHARES come behind 120 SALES", most + "sale(0,1) pass(3)", "share(0,0,1,9)", 2, "held(2,3,0)", 0, "held(2,2,0)", -5,
                "held(2,3,1)", 3, "count(4)", 120);
        edges.due("40 SHARES and 120 SALES", TWO + "40*share(0,1,0,2) 60*{sale(39,0) sale(39,1)}", "sale(39,0)", -4, "held(39,0,0)", 1,
                "count(3)", 40, "count(4)", 120);
    }

    private void of() {
        edges.of(7);
        edges.due("what 0, 1, 2, 3", "holder(2,0) holder(1,0) share(1,0,3,4) price(0,5)", "of(0,0)", 1, "of(0,1)", 3, "of(0,2)", 4,
                "of(0,3)", 5);
        edges.due("NONE: what", ONE_SHARE, "of(0,-1)", -1, "of(0,4)", -1, "of(0,MIN)", -1, "of(0,MAX)", -1);
        edges.due("NONE: share", ONE_SHARE, "of(-1,0)", -1, "of(1,0)", -1, "of(MIN,3)", -1, "of(MAX,3)", -1);
        edges.due("the last SHARE", TWO + "39*share(0,1,0,2) share(0,1,5,6)", "of(39,0)", 0, "of(39,1)", 5, "of(39,2)", 6, "of(40,0)", -1);
    }

    private void held() {
        edges.of(8);
        edges.due("DAYS 0 .. 999, the first", ONE_SHARE, "held(0,0,0)", 1, "held(0,0,1)", 0);
        edges.due("DAYS 0 .. 999, the last", ONE_SHARE, "held(0,999,0)", 1, "held(0,999,1)", 0);
        edges.due("NONE: day", ONE_SHARE, "held(0,-1,0)", -1, "held(0,1000,0)", -1, "held(0,MIN,1)", -1, "held(0,MAX,1)", -1);
        edges.due("NONE: what", ONE_SHARE, "held(0,0,-1)", -1, "held(0,0,2)", -1, "held(0,0,MIN)", -1, "held(0,0,MAX)", -1);
        edges.due("NONE: share", ONE_SHARE, "held(-1,0,0)", -1, "held(1,0,0)", -1, "held(MIN,0,0)", -1, "held(MAX,0,0)", -1);
        edges.due("the last SHARE", TWO + "39*share(0,1,0,2) share(0,0,0,0)", "held(39,0,0)", 0, "held(38,0,0)", 1, "held(40,0,0)", -1);
        edges.due("HOLDER 0 and the last one", "15*holder(2,0) holder(1,0) share(15,0,1,1) share(15,15,1,1)", "held(0,0,0)", 0,
                "held(1,0,0)", 15);
        edges.due("came on the last DAY", TWO + LAST_DAY + "share(0,1,1,1)", "held(0,998,0)", -5, "held(0,998,1)", -5, "held(0,999,0)", 1,
                "held(0,999,1)", 999);
    }

    private void heldOnDays() {
        edges.of(8);
        String late = TWO + "holder(2,0) pass(5) share(0,1,3,4) ";
        edges.due("ahead of the DAY on which it came it is of nobody", late, "held(0,4,0)", -5, "held(0,4,1)", -5, "held(0,0,0)", -5,
                "held(0,0,1)", -5);
        edges.due("as the SHARE came, to its first one", late, "held(0,5,0)", 1, "held(0,5,1)", 5, "held(0,6,0)", 1);
        edges.due("up to then", late + "pass(5) sale(0,2)", "held(0,9,0)", 1, "held(0,9,1)", 5, "held(0,10,0)", 2, "held(0,10,1)", 10,
                "held(0,11,0)", 2);
        edges.due("up to then: sold on the DAY on which it came", late + "sale(0,2)", "held(0,4,0)", -5, "held(0,5,0)", 2, "held(0,5,1)", 5);
        edges.due("went last", late + "pass(5) sale(0,2) sale(0,0) sale(0,2) sale(0,1)", "held(0,9,0)", 1, "held(0,9,1)", 5,
                "held(0,10,0)", 1, "held(0,10,1)", 10);
        edges.due("since the DAY of that: sold and bought back", late + "pass(5) sale(0,2) pass(5) sale(0,1)", "held(0,14,0)", 2,
                "held(0,14,1)", 10, "held(0,15,0)", 1, "held(0,15,1)", 15, "held(0,5,1)", 5);
        edges.due("DAYS behind TODAY", late + "pass(5) sale(0,2)", "held(0,500,0)", 2, "held(0,999,1)", 10);
        edges.due("sold on the last DAY", ONE_SHARE + LAST_DAY + "sale(0,0)", "held(0,998,0)", 1, "held(0,998,1)", 0, "held(0,999,0)", 0,
                "held(0,999,1)", 999);
    }

    private void count() {
        edges.of(34);
        edges.due("what 0 .. 9", TWO + "pass(9) holder(3,1) holder(3,1) holder(3,2) share(0,1,1,1) share(0,1,1,1) sale(0,2) "
                + "'most 3' charter(0,0) 'most 4' charter(0,0) 'most 4' charter(0,0) 'gold' 4*motion(1,0) act(2,1,3)", "count(0)", 9,
                "count(1)", 5, "count(2)", 1, "count(3)", 2, "count(4)", 1, "count(5)", 3, "count(6)", 4, "count(7)", 4, "count(8)", 3,
                "count(9)", 6);
        edges.due("BAD: below 0", ONE_SHARE, "count(-1)", -2, "count(MIN)", -2);
        edges.due("BAD: above 9", ONE_SHARE, "count(10)", -2, "count(MAX)", -2);
        edges.due("RULERS: PERSONS", SIXTEEN, "count(8)", 16);
        edges.due("RULERS: of each FAMILY its least KIN", "4*{holder(3,0) holder(3,1) holder(3,2) holder(3,3)}", "count(8)", 4);
        edges.due("RULERS: no others", "2*{holder(0,0) holder(1,0) holder(4,0) holder(5,0)}", "count(8)", 0);
        edges.due("SALES: a SHARE that comes is none", ONE_SHARE, "count(3)", 1, "count(4)", 0);
        edges.due("texts: one with a FAULT is none", TWO + "'most 3' charter(0,0) 'most' charter(0,0)", "count(5)", 1, "count(6)", 0);
        edges.due("bodies that ran, none such", TWO + "act(0,2,3)", "count(9)", 7, "act(2,0,0)", 0, "count(9)", 0);
    }
}
