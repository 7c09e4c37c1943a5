/** The edges that promises 22 to 25 name, sentence by sentence: what to buy, what a sale changes, what frees, papers. */
public final class EdgesOfDealsTest {
    private static final long NO = Long.MIN_VALUE;
    /** Firm 0 and persons 1, 2, 3, of 10, 6, 5 and 2 votes: none has more than half of 23. */
    private static final String FOUR = "holder(1,0) 3*holder(2,0) share(0,1,1,10) share(0,2,1,6) share(0,3,1,5) share(0,3,1,2) ";
    /** Firm 0, persons 1 and 2. */
    private static final String THREE = "holder(1,0) holder(2,0) holder(2,0) ";

    private final Edges edges = new Edges("edges of deals");

    public static void main(String[] args) {
        EdgesOfDealsTest t = new EdgesOfDealsTest();
        t.buyNumbers();
        t.buyForSale();
        t.buyEight();
        t.buyLeast();
        t.buySinceToday();
        t.buyBySteps();
        t.sold();
        t.soldOfFirms();
        t.free();
        t.freeOfGroup();
        t.freeEight();
        t.mayNumbers();
        t.may();
        t.surely();
        t.edges.end();
    }

    private void bought(String words, String world, int ruler, int firm, long set, long price) {
        edges.due(words, world, "buy(" + ruler + "," + firm + ",0)", set, "buy(" + ruler + "," + firm + ",1)", price);
    }

    private void buyNumbers() {
        edges.of(22);
        String others = FOUR + "holder(0,0) holder(4,0) holder(5,0) holder(3,1) holder(3,1) ";
        edges.due("NO: ruler", others, "buy(-1,0,0)", NO, "buy(9,0,0)", NO, "buy(MIN,0,0)", NO, "buy(MAX,0,1)", NO);
        edges.due("NO: ruler, a HOLDER that is none", others, "buy(0,0,0)", NO, "buy(4,0,0)", NO, "buy(5,0,0)", NO, "buy(6,0,1)", NO,
                "buy(8,0,0)", NO, "buy(7,0,0)", -5);
        edges.due("NO: firm", others, "buy(1,-1,0)", NO, "buy(1,1,0)", NO, "buy(1,4,0)", NO, "buy(1,9,0)", NO, "buy(1,MIN,0)", NO,
                "buy(1,MAX,1)", NO);
        edges.due("NO: what", others, "buy(1,0,-1)", NO, "buy(1,0,2)", NO, "buy(1,0,MIN)", NO, "buy(1,0,MAX)", NO);
        bought("-5: none", FOUR, 1, 0, -5, -5);
        bought("-5: none, though all are for sale", THREE + "share(0,1,1,0) price(0,5)", 2, 0, -5, -5);
        bought("it rules already: nothing", THREE + "share(0,1,1,1)", 1, 0, 0, 0);
        bought("it rules already, and SHARES are for sale", FOUR + "sale(1,1) price(2,5)", 1, 0, 0, 0);
    }

    private void buyForSale() {
        edges.of(22);
        bought("a PRICE above 0: 1", FOUR + "price(1,1)", 1, 0, 2, 1);
        bought("a PRICE of 0 is none", FOUR + "price(1,1) price(1,0)", 1, 0, -5, -5);
        bought("the greatest PRICE", FOUR + "price(1,999)", 1, 0, 2, 999);
        bought("8 of the greatest PRICE", THREE + "8*share(0,2,0,1) share(0,1,0,7) price(0,999) price(1,999) price(2,999) price(3,999) "
                + "price(4,999) price(5,999) price(6,999) price(7,999) 'need 14 15' charter(0,0)", 1, 0, 255, 7992);
        bought("that are not the RULER's", FOUR + "price(0,1) price(1,8)", 1, 0, 2, 8);
        bought("of the FIRM itself", THREE + "share(0,0,0,9) share(0,2,0,1) price(0,3)", 1, 0, 1, 3);
        bought("of a FUND", THREE + "holder(4,0) share(0,3,0,9) share(0,2,0,1) price(0,3)", 1, 0, 1, 3);
        bought("of KIN of its FAMILY, which it rules by already", "holder(1,0) 2*holder(3,0) share(0,2,0,9) price(0,3)", 1, 0, 0, 0);
        bought("of KIN of its FAMILY, whose votes sleep", "holder(1,0) 2*holder(3,0) share(0,2,0,9) price(0,3) 'sleep h=2' charter(0,0)",
                1, 0, 1, 3);
        bought("that are not the RULER's (TODAY)", FOUR + "price(0,4) pass(5) sale(0,2)", 1, 0, -5, -5);
        bought("that are not the RULER's (TODAY), but were", FOUR + "price(0,4) pass(5) sale(0,3)", 1, 0, -5, -5);
        bought("that were the RULER's", FOUR + "price(0,4) price(1,3) pass(5) sale(0,3)", 1, 0, 3, 7);
    }

    /** Persons 1 and 2: 2 has ten shares, of which the last alone brings rule. */
    private void buyEight() {
        edges.of(22);
        String ten = THREE + "7*share(0,2,0,1) share(0,2,0,90) share(0,2,0,95) ";
        String prices = "price(0,1) price(1,1) price(2,1) price(3,1) price(4,1) price(5,1) price(6,1) ";
        bought("8 at most by numbers, the eighth", ten + prices + "price(7,9) 'sleep v=95' charter(0,0)", 1, 0, 128, 9);
        bought("8 at most by numbers, the ninth is not", ten + prices + "price(7,9) price(8,9) 'sleep v=90' charter(0,0)", 1, 0, -5, -5);
        bought("SHARES without a PRICE are not counted", ten + prices + "price(7,9) price(8,9) price(3,0) 'sleep v=90' charter(0,0)",
                1, 0, 256, 9);
        bought("SHARES of the RULER are not counted", ten + prices + "price(7,9) price(8,9) sale(3,1) 'sleep v=90' charter(0,0)",
                1, 0, 256, 9);
        bought("SHARES of any FIRM are counted", ten + "holder(1,0) share(3,2,0,1) 'sleep v=90' charter(0,0) " + prices
                + "price(8,9) price(9,9)", 1, 0, 256, 9);
        bought("SHARES of any FIRM are counted, ahead of it", "holder(1,0) holder(1,0) 2*holder(2,0) 8*share(1,3,0,1) share(0,3,0,9) " + prices
                + "price(7,1) price(8,1)", 2, 0, -5, -5);
        edges.due("asked again, less for sale", FOUR + "price(1,3) price(2,4) price(3,5)", "buy(1,0,0)", 2, "buy(2,0,0)", 12, "price(1,0)", 3,
                "buy(1,0,0)", 4, "buy(1,0,1)", 4, "price(2,0)", 4, "price(3,0)", 5, "buy(1,0,0)", -5, "buy(2,0,0)", -5);
        edges.due("asked again, eight others for sale", THREE + "8*share(0,2,0,1) 8*share(0,2,0,9) " + prices + "price(7,1)", "buy(1,0,0)", -5,
                "price(0,0)", 1, "price(8,99)", 0, "buy(1,0,0)", -5, "price(1,0)", 1, "price(2,0)", 1, "price(3,0)", 1, "price(9,99)", 0,
                "price(10,99)", 0, "price(11,99)", 0, "buy(1,0,0)", -5, "price(4,0)", 1, "price(12,99)", 0, "buy(1,0,0)", 7936);
        bought("bit 39: SHARE 39", THREE + "39*share(0,2,0,0) share(0,2,0,9) price(39,5)", 1, 0, 549755813888L, 5);
        bought("bits beyond 31", THREE + "31*share(0,2,0,0) share(0,2,0,9) share(0,2,0,9) share(0,1,0,10) price(31,5) price(32,5)", 1, 0,
                2147483648L, 5);
        bought("bits beyond 31, two of these", THREE + "31*share(0,2,0,0) share(0,2,0,9) share(0,2,0,9) price(31,5) price(32,5) "
                + "'need 1 1' charter(0,0) 'need 17 18' charter(0,0)", 1, 0, 6442450944L, 10);
    }

    private void buyLeast() {
        edges.of(22);
        String rivals = "holder(1,0) 3*holder(2,0) share(0,1,1,4) share(0,1,1,4) share(0,2,1,10) share(0,3,1,8) ";
        bought("of the least PRICE together, more SHARES", rivals + "price(0,1) price(1,1) price(2,3)", 3, 0, 3, 2);
        bought("of several the fewest", rivals + "price(0,1) price(1,1) price(2,2)", 3, 0, 4, 2);
        bought("of the least PRICE together, fewer SHARES", rivals + "price(0,1) price(1,2) price(2,2)", 3, 0, 4, 2);
        bought("of several the least as bits", FOUR + "price(1,5) price(2,5) price(3,5)", 1, 0, 2, 5);
        bought("of several the least as bits: of two SHARES", THREE + "share(0,2,0,5) share(0,2,0,5) share(0,2,0,5) share(0,1,0,1) "
                + "price(0,2) price(1,2) price(2,2)", 1, 0, 3, 4);
        bought("cheaper by one", FOUR + "price(1,5) price(2,5) price(3,4)", 1, 0, 8, 4);
        bought("HOLDER 0 buys", "holder(2,0) holder(1,0) holder(2,0) share(1,2,1,5) share(1,2,1,4) price(0,3) price(1,2)", 0, 1, 1, 3);
        bought("of HOLDER 0", "holder(2,0) holder(1,0) holder(2,0) share(1,0,1,5) price(0,3)", 2, 1, 1, 3);
        bought("the empty set costs nothing", THREE + "share(0,1,1,1) share(0,2,1,1) share(0,1,1,1) price(1,1)", 1, 0, 0, 0);
    }

    private void buySinceToday() {
        edges.of(22);
        bought("its own since TODAY: not old", FOUR + "'old 3 4' charter(0,0) pass(3) price(1,8) price(2,7)", 2, 0, -5, -5);
        bought("its own since TODAY: sleep d<1", FOUR + "'sleep d<1' charter(0,0) pass(3) price(2,7)", 1, 0, 4, 7);
        bought("its own since TODAY: sleep d>0", THREE + "share(0,2,0,9) 'sleep d>0' charter(0,0) pass(3) price(0,7)", 1, 0, 1, 7);
        bought("those that are its own already stay as they are", THREE + "share(0,1,0,5) share(0,2,0,9) 'old 3 2' charter(0,0) "
                + "pass(3) sale(1,0) sale(1,2) price(0,1) price(1,9)", 1, 0, 0, 0);
        bought("those that are its own already stay as they are: asleep", THREE + "share(0,1,0,5) share(0,2,0,1) 'sleep d>2&h=1' charter(0,0) "
                + "pass(3) price(0,1)", 1, 0, -5, -5);
        bought("sleep by its KIND and number", FOUR + "'sleep h=1&v<9' charter(0,0) price(1,3) price(2,4)", 1, 0, 2, 3);
        bought("charters of TODAY", FOUR + "'most 0' charter(0,5) price(1,3)", 1, 0, 2, 3);
        bought("charters of TODAY, five DAYS later", FOUR + "'most 0' charter(0,5) price(1,3) pass(5)", 1, 0, -5, -5);
    }

    private void buyBySteps() {
        edges.of(22);
        String chain = "2*holder(1,0) 2*holder(2,0) share(0,1,1,10) share(0,3,1,3) share(1,3,1,5) share(1,2,1,4) ";
        bought("by LEAST: a SHARE in another FIRM", chain + "price(0,50) price(2,20)", 2, 0, 4, 20);
        bought("by LEAST: the FIRM's SHARE itself", chain + "price(0,19) price(2,20)", 2, 0, 1, 19);
        bought("by LEAST: the least RULER rules first", THREE + "share(0,1,0,1) share(0,2,0,1) 'need 0 1' charter(0,0) price(0,6)", 2, 0, 1, 6);
        bought("by LEAST: FIRMS that it rules lose nothing", chain + "sale(2,2) price(0,1)", 2, 0, 0, 0);
    }

    private void sold() {
        edges.of(23);
        edges.due("NONE", FOUR, "sold(-1)", -1, "sold(4)", -1, "sold(MIN)", -1, "sold(MAX)", -1);
        edges.due("NONE: no SHARES", THREE, "sold(0)", -1);
        edges.due("as if it were nobody's: another rules", FOUR, "sold(0)", 1, "sold(1)", 1, "sold(2)", 1, "sold(3)", 0);
        edges.due("having none is the same", THREE + "share(0,1,1,0) share(0,0,1,5)", "sold(0)", 0, "sold(1)", 0);
        edges.due("or having none: then none", THREE + "share(0,1,1,5)", "sold(0)", 1);
        edges.due("or having none: then one", THREE + "share(0,1,1,5) share(0,2,1,5)", "sold(0)", 1, "sold(1)", 1);
        edges.due("whose RULER is the same", THREE + "share(0,1,1,5) share(0,1,1,5) share(0,2,1,4)", "sold(0)", 0, "sold(1)", 0, "sold(2)", 0);
        edges.due("the last SHARE", THREE + "39*share(0,2,0,0) share(0,2,0,9)", "sold(39)", 1, "sold(38)", 0, "sold(40)", -1);
        edges.due("TODAY", THREE + "share(0,1,1,5) share(0,2,1,4) pass(5) sale(0,2)", "sold(0)", 0, "sold(1)", 0, "sale(0,1)", 2, "sold(0)", 1);
    }

    private void soldOfFirms() {
        edges.of(23);
        edges.due("FIRMS as bits (bit: its number as a HOLDER)", "9*holder(2,0) 7*holder(1,0) share(9,0,1,1) share(15,9,1,1) share(12,15,1,1) "
                + "share(10,0,1,1)", "sold(0)", (1 << 9) + (1 << 15) + (1 << 12), "sold(1)", (1 << 15) + (1 << 12), "sold(2)", 1 << 12,
                "sold(3)", 1 << 10);
        edges.due("all seven FIRMS", "7*holder(1,0) holder(2,0) share(6,7,1,1) share(5,6,1,1) share(4,5,1,1) share(3,4,1,1) share(2,3,1,1) "
                + "share(1,2,1,1) share(0,1,1,1)", "sold(0)", 127, "sold(6)", 1, "sold(3)", 15);
    }

    private void free() {
        edges.of(24);
        edges.due("NO: no such FIRM", FOUR + "sale(1,1)", "free(-1)", NO, "free(1)", NO, "free(4)", NO, "free(MIN)", NO, "free(MAX)", NO);
        edges.due("NO: it has no RULER", FOUR, "free(0)", NO);
        edges.due("NO: it has no RULER, and no SHARES", THREE, "free(0)", NO);
        edges.due("one SHARE", THREE + "share(0,1,1,1)", "free(0)", 1);
        edges.due("HOLDER 0's", "holder(2,0) holder(1,0) holder(2,0) share(1,0,1,5)", "free(1)", 1, "sold(0)", 2);
        edges.due("-5: none such, HOLDER 0 rules then", "holder(2,0) holder(1,0) holder(2,0) share(1,2,1,5) share(1,0,1,4)", "free(1)", -5);
        edges.due("asked of one FIRM after another", "2*holder(1,0) 2*holder(2,0) share(0,2,0,1) share(1,3,0,1)", "free(0)", 1, "free(1)", 2,
                "free(0)", 1);
        edges.due("-5: none such, another rules then", THREE + "share(0,1,1,5) share(0,2,1,4)", "free(0)", -5);
        edges.due("the fewest", THREE + "holder(2,0) share(0,1,0,2) share(0,1,0,2) share(0,1,0,6) share(0,2,0,3) share(0,3,0,4)",
                "free(0)", 4);
        edges.due("the fewest: all are needed", THREE + "share(0,1,0,2) share(0,1,0,2) share(0,1,0,2)", "free(0)", 7);
        edges.due("of several the least as bits", THREE + "holder(2,0) share(0,2,0,4) share(0,1,0,5) share(0,1,0,5) share(0,1,0,5) "
                + "share(0,3,0,4)", "free(0)", 6);
        edges.due("as bits: bit 39", THREE + "39*share(0,2,0,0) share(0,1,0,9)", "free(0)", 549755813888L);
        edges.due("as bits: two beyond 31", THREE + "31*share(0,2,0,0) share(0,1,0,9) share(0,1,0,9)", "free(0)", 6442450944L);
        edges.due("TODAY", THREE + "share(0,1,0,5) share(0,2,0,5) pass(5) sale(0,2)", "free(0)", 3);
    }

    private void freeOfGroup() {
        edges.of(24);
        edges.due("all KIN of its FAMILY", "holder(1,0) 3*holder(3,1) share(0,2,0,5) share(0,3,0,5)", "free(0)", 3);
        edges.due("the FIRMS that it rules", "2*holder(1,0) holder(2,0) share(0,1,0,5) share(1,2,0,5)", "free(0)", 1, "free(1)", 2);
        edges.due("SHARES of any FIRM", "2*holder(1,0) 2*holder(2,0) share(1,2,0,5) share(0,1,0,5)", "free(0)", 1);
        edges.due("not of another RULER's GROUP", THREE + "share(0,2,0,4) share(0,1,0,5)", "free(0)", -5);
        edges.due("not of HOLDERS beside", THREE + "holder(0,0) share(0,3,0,4) share(0,1,0,5)", "free(0)", 2);
        edges.due("gold alone is no SHARE", THREE + "share(0,1,0,5) share(0,2,0,4) 'gold 1' charter(0,0)", "free(0)", 1);
    }

    private void freeEight() {
        edges.of(24);
        edges.due("8 at most by numbers: eight", THREE + "8*share(0,1,0,1)", "free(0)", 255);
        edges.due("8 at most by numbers: the ninth is not looked at", THREE + "9*share(0,1,0,1)", "free(0)", -5);
        edges.due("8 at most: asked of another FIRM after eight", THREE + "holder(1,0) 8*share(0,1,0,1) share(3,2,0,1)", "free(0)", 255,
                "free(3)", 256, "free(0)", 255);
        edges.due("8 at most: of any FIRM", THREE + "holder(1,0) 8*share(3,1,0,1) share(0,1,0,1)", "free(0)", -5);
        edges.due("8 at most: the eighth", THREE + "holder(1,0) 7*share(3,1,0,1) share(0,1,0,1)", "free(0)", 128);
        edges.due("8 at most: of the GROUP alone", THREE + "holder(1,0) 7*share(3,1,0,1) share(0,2,0,0) share(0,1,0,1)", "free(0)", 256);
    }

    private void mayNumbers() {
        edges.of(25);
        String others = FOUR + "holder(0,0) holder(4,0) holder(5,0) holder(3,1) holder(3,1) ";
        edges.due("NONE: ruler", others, "may(-1,0,1,0)", -1, "may(9,0,1,0)", -1, "may(MIN,0,1,1)", -1, "may(MAX,0,1,1)", -1);
        edges.due("NONE: ruler, a HOLDER that is none", others, "may(0,0,1,0)", -1, "may(4,0,1,0)", -1, "may(5,0,1,0)", -1, "may(6,0,1,1)", -1,
                "may(8,0,1,0)", -1, "may(7,0,12,0)", 1);
        edges.due("NONE: firm", others, "may(1,-1,1,0)", -1, "may(1,1,1,0)", -1, "may(1,9,1,0)", -1, "may(1,MIN,1,1)", -1, "may(1,MAX,1,1)", -1);
        edges.due("NONE: what", others, "may(1,0,1,-1)", -1, "may(1,0,1,2)", -1, "may(1,0,1,MIN)", -1, "may(1,0,1,MAX)", -1);
        edges.due("BAD: h", others, "may(1,0,-1,0)", -2, "may(1,0,13,0)", -2, "may(1,0,MIN,1)", -2, "may(1,0,MAX,1)", -2);
        edges.due("h 0 .. 12", others, "may(1,0,0,0)", 0, "may(1,0,12,0)", 1, "may(1,0,0,1)", 0, "may(1,0,12,1)", 0);
        edges.due("NONE ahead of BAD", others, "may(0,0,-1,0)", -1, "may(1,1,13,0)", -1, "may(1,0,13,2)", -1, "may(1,0,-1,-1)", -1);
    }

    private void may() {
        edges.of(25);
        String two = THREE + "share(0,1,5,6) share(0,2,4,10) ";
        edges.due("h PARTS or more are told", two, "may(1,0,4,0)", 0, "may(1,0,5,0)", 1, "may(2,0,4,0)", 1, "may(1,0,0,0)", 0);
        edges.due("h 0: none is HIDDEN", THREE + "share(0,2,0,10)", "may(1,0,0,0)", 0, "may(1,0,1,0)", 1);
        edges.due("h 12: one of 12 PARTS is told", THREE + "share(0,2,12,10)", "may(1,0,12,0)", 0);
        edges.due("h 12: one of 11 PARTS is HIDDEN", THREE + "share(0,2,11,10)", "may(1,0,12,0)", 1, "may(1,0,11,0)", 0);
        edges.due("all HIDDEN ones its own", THREE + "3*share(0,2,1,10) share(0,2,5,25)", "may(1,0,2,0)", 1, "may(1,0,1,0)", 0);
        edges.due("its own since TODAY: not old", THREE + "share(0,2,1,10) share(0,2,5,15) 'old 3 2' charter(0,0) pass(3) sale(1,0) sale(1,2)",
                "may(1,0,2,0)", 0, "may(1,0,6,0)", 1);
        edges.due("its own since TODAY: sleep", THREE + "share(0,2,1,10) 'sleep d=0' charter(0,0) pass(3)", "may(1,0,2,0)", 0,
                "may(2,0,2,0)", 1);
        edges.due("those that are its own already stay as they are", THREE + "share(0,1,1,10) share(0,2,5,15) 'old 3 2' charter(0,0) pass(3) "
                + "sale(1,0) sale(1,2)", "may(1,0,2,0)", 1);
        edges.due("by LEAST: by a HIDDEN SHARE in another FIRM", "2*holder(1,0) 2*holder(2,0) share(0,1,5,9) share(1,3,1,1)", "may(2,0,2,0)", 1,
                "may(2,0,1,0)", 0, "may(3,0,0,0)", 1);
        edges.due("HIDDEN ones of FUNDS and FIRMS, too", THREE + "holder(4,0) share(0,3,1,9) share(0,0,1,9) share(0,2,5,17)", "may(1,0,2,0)", 1,
                "may(1,0,1,0)", 0);
    }

    private void surely() {
        edges.of(25);
        String two = THREE + "share(0,1,5,10) share(0,2,4,6) ";
        edges.due("with all HIDDEN ones nobody's", two, "may(1,0,4,1)", 1, "may(1,0,5,1)", 1, "may(1,0,6,1)", 0, "may(2,0,5,1)", 0);
        edges.due("with all HIDDEN ones nobody's, its own, too", two, "may(1,0,12,1)", 0, "may(2,0,12,1)", 0);
        edges.due("h 0: as it is", two, "may(1,0,0,1)", 1, "may(2,0,0,1)", 0);
        edges.due("h 12: one of 12 PARTS is told", THREE + "share(0,1,12,1)", "may(1,0,12,1)", 1);
        edges.due("h 12: one of 11 PARTS is HIDDEN", THREE + "share(0,1,11,1)", "may(1,0,12,1)", 0, "may(1,0,11,1)", 1);
        edges.due("it rules surely that does not by itself", THREE + "share(0,1,5,10) share(0,2,4,10)", "may(1,0,5,1)", 1, "may(1,0,0,1)", 0);
        edges.due("those that are told stay as they are", THREE + "share(0,1,5,10) share(0,2,5,15) 'old 3 2' charter(0,0) pass(3) "
                + "sale(1,0) sale(1,2)", "may(1,0,5,1)", 1, "may(2,0,5,1)", 0);
        edges.due("by LEAST: a HIDDEN SHARE in another FIRM", "2*holder(1,0) holder(2,0) share(0,1,5,9) share(1,2,1,1)", "may(2,0,1,1)", 1,
                "may(2,0,2,1)", 0);
    }
}
