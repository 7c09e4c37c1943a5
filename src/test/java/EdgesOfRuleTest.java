/** The edges that promises 15 to 18 name, sentence by sentence: rulers, steps, all rules that fit, proofs. */
public final class EdgesOfRuleTest {
    /** Firm 0, persons 1 and 2. */
    private static final String THREE = "holder(1,0) holder(2,0) holder(2,0) ";
    private static final String RULED = THREE + "share(0,1,1,5) share(0,2,1,4) ";
    /** Firms 0, 1, 2 and persons 3, 4: 0 is had by 1, 1 by 3, 2 by 0. */
    private static final String CHAIN = "3*holder(1,0) 2*holder(2,0) share(0,1,1,5) share(0,4,1,4) share(1,3,1,1) share(2,0,1,1) ";
    private static final String SEVEN = "7*holder(1,0) ";

    private final Edges edges = new Edges("edges of rule");

    public static void main(String[] args) {
        EdgesOfRuleTest t = new EdgesOfRuleTest();
        t.ruler();
        t.rulersOfFamilies();
        t.rulersByRounds();
        t.rulersByGold();
        t.rulersOfDays();
        t.step();
        t.stepsOfSeven();
        t.all();
        t.allInOrder();
        t.allAtMost();
        t.proof();
        t.proofGood();
        t.proofTorn();
        t.proofFarOff();
        t.edges.end();
    }

    private void ruler() {
        edges.of(15);
        edges.due("NONE: firm", RULED, "ruler(-1,0)", -1, "ruler(1,0)", -1, "ruler(3,0)", -1, "ruler(MIN,0)", -1, "ruler(MAX,0)", -1);
        edges.due("NONE: day", RULED, "ruler(0,-1)", -1, "ruler(0,1000)", -1, "ruler(0,MIN)", -1, "ruler(0,MAX)", -1);
        edges.due("DAYS 0 .. 999", RULED, "ruler(0,0)", 1, "ruler(0,999)", 1);
        edges.due("-5: none: no SHARES", THREE, "ruler(0,0)", -5);
        edges.due("-5: none: just half", RULED + "share(0,2,1,1)", "ruler(0,0)", -5);
        edges.due("one more than half", RULED + "share(0,2,1,2)", "ruler(0,0)", 2);
        edges.due("RULERS: no FUND, no CLUB, no HOLDER, no FIRM that has no RULER",
                "6*holder(1,0) 2*holder(0,0) holder(4,0) holder(5,0) holder(2,0) share(0,6,1,9) share(1,8,1,9) share(2,9,1,9) "
                + "share(3,4,1,9) share(5,5,1,9)", "ruler(0,0)", -5, "ruler(1,0)", -5, "ruler(2,0)", -5, "ruler(3,0)", -5, "ruler(5,0)", -5);
        edges.due("HOLDER 0 as a RULER, the last as a FIRM", "holder(2,0) 14*holder(0,0) holder(1,0) share(15,0,1,1)", "ruler(15,0)", 0);
        edges.due("HOLDER 0 as a RULER, through a FIRM", "holder(2,0) 2*holder(1,0) holder(2,0) share(1,0,1,5) share(1,3,1,4) share(2,1,1,5) "
                + "share(2,3,1,4)", "ruler(1,0)", 0, "ruler(2,0)", 0, "step(0,-1)", 2, "step(0,0)", 1, "step(0,1)", 2, "step(0,2)", -1,
                "all(0,-1,1)", 1, "all(0,0,2)", 0);
        edges.due("the last HOLDER as a RULER", "holder(1,0) 14*holder(0,0) holder(2,0) share(0,15,1,1)", "ruler(0,0)", 15);
    }

    private void rulersOfFamilies() {
        edges.of(15);
        String kin = "holder(1,0) holder(2,0) holder(3,2) holder(3,1) holder(3,2) ";
        edges.due("of each FAMILY its least KIN", kin + "share(0,4,1,1)", "ruler(0,0)", 2);
        edges.due("all KIN of its FAMILY", kin + "share(0,1,1,5) share(0,2,1,3) share(0,4,1,3)", "ruler(0,0)", 2);
        edges.due("KIN of another FAMILY are not of it", kin + "share(0,1,1,5) share(0,2,1,3) share(0,3,1,3)", "ruler(0,0)", -5);
        edges.due("FAMILIES 0 to 3", "4*holder(1,0) holder(3,0) holder(3,1) holder(3,2) holder(3,3) holder(3,0) holder(3,1) holder(3,2) "
                + "holder(3,3) share(0,8,1,1) share(1,9,1,1) share(2,10,1,1) share(3,11,1,1)", "ruler(0,0)", 4, "ruler(1,0)", 5,
                "ruler(2,0)", 6, "ruler(3,0)", 7);
        edges.due("PERSONS are of no FAMILY", "holder(1,0) holder(2,0) holder(2,0) holder(3,0) share(0,1,1,5) share(0,2,1,5) share(0,3,1,5)",
                "ruler(0,0)", -5);
    }

    private void rulersByRounds() {
        edges.of(15);
        edges.due("the FIRMS that it rules", CHAIN, "ruler(0,0)", 3, "ruler(1,0)", 3, "ruler(2,0)", 3);
        edges.due("the least RULER", THREE + "share(0,1,1,1) share(0,2,1,9) 'need 0 1' charter(0,0)", "ruler(0,0)", 1);
        edges.due("one that has no RULER gets it: it keeps that", "2*holder(1,0) 2*holder(2,0) share(0,3,1,3) share(0,1,1,9) share(1,2,1,1) "
                + "'need 0 1' charter(0,0)", "ruler(0,0)", 3, "ruler(1,0)", 2);
        edges.due("as it is then: within a round", "3*holder(1,0) holder(2,0) share(0,3,1,1) share(1,0,1,1) share(2,3,1,1)", "step(0,0)", 0,
                "step(0,1)", 1, "step(0,2)", 2);
        edges.due("as it is then: of FIRMS ahead", "2*holder(1,0) 2*holder(2,0) share(0,2,1,1) share(1,0,1,9) share(1,3,1,1) "
                + "'need 0 1' charter(1,0)", "ruler(1,0)", 2);
        edges.due("as it is then: not of FIRMS behind", "2*holder(1,0) 2*holder(2,0) share(1,2,1,1) share(0,1,1,9) share(0,3,1,1) "
                + "'need 0 1' charter(0,0)", "ruler(0,0)", 3);
        edges.due("in rounds: one that is passed over is asked again behind the others", "3*holder(1,0) 2*holder(2,0) share(0,1,1,1) share(0,2,1,2) "
                + "share(1,4,1,1) share(2,3,1,1) 'need 0 1' charter(0,0)", "ruler(0,0)", 3, "ruler(1,0)", 4, "step(0,2)", 0);
        edges.due("till a round brings none: seven rounds", SEVEN + "holder(2,0) share(6,7,1,1) share(5,6,1,1) share(4,5,1,1) share(3,4,1,1) "
                + "share(2,3,1,1) share(1,2,1,1) share(0,1,1,1)", "ruler(0,0)", 7, "ruler(3,0)", 7, "ruler(6,0)", 7, "step(0,6)", 0,
                "step(0,0)", 6);
        edges.due("from nobody ruling on: a ring rules nothing", "2*holder(1,0) holder(2,0) share(0,1,1,5) share(1,0,1,5) share(0,2,1,4) "
                + "share(1,2,1,4)", "ruler(0,0)", -5, "ruler(1,0)", -5);
    }

    private void rulersByGold() {
        edges.of(15);
        edges.due("gold is its own", RULED + "'gold 1' charter(0,0)", "ruler(0,0)", 1);
        edges.due("gold is another's", RULED + "'gold 2' charter(0,0)", "ruler(0,0)", -5);
        edges.due("gold is nobody's", RULED + "'gold 3' charter(0,0)", "ruler(0,0)", 1);
        edges.due("gold is the FIRM's", RULED + "'gold 0' charter(0,0)", "ruler(0,0)", -5);
        edges.due("gold is a FUND's", RULED + "holder(4,0) 'gold 3' charter(0,0)", "ruler(0,0)", -5);
        edges.due("gold is of its FAMILY", "holder(1,0) holder(3,1) holder(3,1) share(0,1,1,5) 'gold 2' charter(0,0)", "ruler(0,0)", 1);
        edges.due("gold is a FIRM's that it rules", CHAIN + "share(2,3,1,1) 'gold 1' charter(2,0)", "ruler(2,0)", 3);
        edges.due("gold is a FIRM's that nobody rules", CHAIN + "holder(1,0) 'gold 5' charter(1,0)", "ruler(1,0)", -5, "ruler(0,0)", -5,
                "ruler(2,0)", -5);
    }

    private void rulersOfDays() {
        edges.of(15);
        String sold = THREE + "pass(5) share(0,1,1,5) pass(5) sale(0,2) ";
        edges.due("on a DAY", sold, "ruler(0,0)", -5, "ruler(0,4)", -5, "ruler(0,5)", 1, "ruler(0,9)", 1, "ruler(0,10)", 2, "ruler(0,11)", 2,
                "ruler(0,999)", 2);
        edges.due("charters on a DAY", RULED + "'gold 2' charter(0,3) 'most 0' charter(0,5) 'gold 1;most 9' charter(0,7)", "ruler(0,2)", 1,
                "ruler(0,3)", -5, "ruler(0,6)", -5, "ruler(0,7)", 1);
        edges.due("old on a DAY", RULED + "pass(3) sale(0,0) sale(0,1) 'old 3 2' charter(0,0)", "ruler(0,2)", 1, "ruler(0,3)", 2,
                "ruler(0,5)", 2, "ruler(0,6)", 1);
        edges.due("sleep on a DAY", RULED + "'sleep d>3&v=5' charter(0,0)", "ruler(0,3)", 1, "ruler(0,4)", 2);
    }

    private void step() {
        edges.of(16);
        edges.due("how many (i -1)", CHAIN, "step(0,-1)", 3);
        edges.due("the i-th, the first and the last", CHAIN, "step(0,0)", 1, "step(0,1)", 0, "step(0,2)", 2);
        edges.due("NONE: i", CHAIN, "step(0,3)", -1, "step(0,-2)", -1, "step(0,7)", -1, "step(0,MIN)", -1, "step(0,MAX)", -1);
        edges.due("NONE: day", CHAIN, "step(-1,0)", -1, "step(1000,0)", -1, "step(-1,-1)", -1, "step(1000,-1)", -1, "step(MIN,-1)", -1,
                "step(MAX,-1)", -1);
        edges.due("DAYS 0 .. 999", CHAIN, "step(0,-1)", 3, "step(999,-1)", 3);
        edges.due("none", THREE, "step(0,-1)", 0, "step(0,0)", -1, "step(999,0)", -1);
        edges.due("no FIRMS", "holder(2,0)", "step(0,-1)", 0, "step(0,0)", -1);
        edges.due("on a DAY", THREE + "pass(5) share(0,1,1,5)", "step(4,-1)", 0, "step(4,0)", -1, "step(5,-1)", 1, "step(5,0)", 0);
        edges.due("asked first of all", CHAIN, "step(0,1)", 0);
        edges.due("after another DAY", CHAIN + "pass(5) sale(2,1)", "step(0,0)", 1, "step(5,0)", -1, "step(0,2)", 2, "step(5,-1)", 0);
    }

    private void stepsOfSeven() {
        edges.of(16);
        edges.due("all seven, in one round", SEVEN + "holder(2,0) share(0,7,1,1) share(1,7,1,1) share(2,7,1,1) share(3,7,1,1) share(4,7,1,1) "
                + "share(5,7,1,1) share(6,7,1,1)", "step(0,-1)", 7, "step(0,0)", 0, "step(0,6)", 6, "step(0,7)", -1);
        edges.due("in rounds: the others ahead of one that was passed over", "3*holder(1,0) holder(2,0) share(0,1,1,1) share(1,3,1,1) share(2,3,1,1)",
                "step(0,-1)", 3, "step(0,0)", 1, "step(0,1)", 2, "step(0,2)", 0);
        edges.due("in rounds: FIRMS by numbers in each", "5*holder(1,0) holder(2,0) share(0,1,1,1) share(1,3,1,1) share(2,1,1,1) share(3,5,1,1) "
                + "share(4,3,1,1)", "step(0,0)", 3, "step(0,1)", 4, "step(0,2)", 1, "step(0,3)", 2, "step(0,4)", 0);
        edges.due("the order in which they got one", SEVEN + "holder(2,0) share(3,7,1,1) share(1,3,1,1) share(5,1,1,1) share(2,5,1,1)",
                "step(0,-1)", 4, "step(0,0)", 3, "step(0,1)", 1, "step(0,2)", 5, "step(0,3)", 2, "step(0,4)", -1);
    }

    private void all() {
        edges.of(17);
        String ring = "2*holder(1,0) 2*holder(2,0) pass(5) share(0,1,1,5) share(1,0,1,5) share(0,2,1,4) share(1,2,1,4) ";
        edges.due("how many (i -1)", ring, "all(5,-1,0)", 3, "all(5,-1,1)", 3, "all(999,-1,0)", 3, "all(0,-1,0)", 1);
        edges.due("of the i-th the RULER of a FIRM (-5: none)", ring, "all(5,0,0)", -5, "all(5,0,1)", -5, "all(5,1,0)", 2, "all(5,1,1)", 2,
                "all(5,2,0)", 3, "all(5,2,1)", 3);
        edges.due("NONE: no i-th", ring, "all(5,3,0)", -1, "all(5,3,1)", -1, "all(5,MAX,0)", -1, "all(0,1,0)", -1);
        edges.due("NONE: i below -1", ring, "all(5,-2,0)", -1, "all(5,MIN,0)", -1);
        edges.due("NONE: day", ring, "all(-1,-1,0)", -1, "all(1000,-1,0)", -1, "all(-1,0,0)", -1, "all(MIN,0,0)", -1, "all(MAX,0,0)", -1);
        edges.due("NONE: firm (also of i -1)", ring, "all(5,-1,2)", -1, "all(5,-1,4)", -1, "all(5,-1,-1)", -1, "all(5,0,2)", -1,
                "all(5,0,MIN)", -1, "all(5,-1,MAX)", -1);
        edges.due("DAYS 0 .. 999", ring, "all(0,0,0)", -5, "all(999,1,0)", 2);
        edges.due("none fits", "holder(1,0) holder(2,0) holder(2,0) share(0,1,1,5)", "all(0,-1,0)", 1, "all(0,0,0)", 1, "all(0,1,0)", -1);
        edges.due("no RULERS", "2*holder(1,0) holder(4,0) share(0,1,1,5)", "all(0,-1,0)", 1, "all(0,0,1)", -5, "all(0,1,1)", -1);
        edges.due("nobody CARRIES where nobody rules", "holder(1,0) holder(2,0) share(0,1,1,5) 'gold 0' charter(0,0)", "all(0,-1,0)", 2,
                "all(0,0,0)", -5, "all(0,1,0)", 1);
    }

    /** Each of two firms has the gold of the other one, so that both have one ruler or none. */
    private void allInOrder() {
        edges.of(17);
        String gold = "holder(2,0) holder(1,0) holder(2,0) holder(1,0) share(1,0,1,1) share(1,2,1,1) share(3,0,1,1) share(3,2,1,1) ";
        edges.due("none first, then by number", gold + "'need 0 1;gold 1' charter(1,0) 'need 0 1;gold 3' charter(3,0)", "all(0,-1,1)", 9,
                "all(0,0,1)", -5, "all(0,0,3)", -5, "all(0,1,1)", -5, "all(0,1,3)", 0, "all(0,2,3)", 2, "all(0,2,1)", -5, "all(0,3,1)", 0,
                "all(0,3,3)", -5, "all(0,4,3)", 0, "all(0,5,3)", 2, "all(0,6,1)", 2, "all(0,8,1)", 2, "all(0,8,3)", 2, "all(0,9,3)", -1);
        edges.due("in their rows: gold of the other", gold + "'need 0 1;gold 3' charter(1,0) 'need 0 1;gold 1' charter(3,0)",
                "all(0,-1,1)", 3, "all(0,0,1)", -5, "all(0,1,1)", 0, "all(0,1,3)", 0, "all(0,2,1)", 2, "all(0,2,3)", 2);
        edges.due("in each without one no GROUP CARRIES", gold + "'need 0 1' charter(1,0) 'need 0 1;gold 3' charter(3,0)", "all(0,-1,1)", 6,
                "all(0,0,1)", 0, "all(0,0,3)", -5, "all(0,1,3)", 0, "all(0,2,3)", 2, "all(0,3,1)", 2, "all(0,3,3)", -5, "all(0,5,3)", 2);
        edges.due("KIN are told by the least", "holder(1,0) holder(3,1) holder(3,1) share(0,2,1,1)", "all(0,-1,0)", 1, "all(0,0,0)", 1);
    }

    private void allAtMost() {
        edges.of(17);
        edges.due("5 FIRMS and 4 RULERS at most", "5*holder(1,0) 4*holder(2,0) share(4,8,1,1)", "all(0,-1,0)", 1, "all(0,0,4)", 8,
                "all(0,0,3)", -5, "all(0,1,4)", -1);
        edges.due("all 3125 rows fit", "5*holder(1,0) 4*holder(2,0) share(0,5,1,1) share(0,6,1,1) share(0,7,1,1) share(0,8,1,1) "
                + "share(1,5,1,1) share(1,6,1,1) share(1,7,1,1) share(1,8,1,1) share(2,5,1,1) share(2,6,1,1) share(2,7,1,1) share(2,8,1,1) "
                + "share(3,5,1,1) share(3,6,1,1) share(3,7,1,1) share(3,8,1,1) share(4,5,1,1) share(4,6,1,1) share(4,7,1,1) share(4,8,1,1) "
                + "'need 0 1;gold 0' charter(0,0) 'need 0 1;gold 1' charter(1,0) 'need 0 1;gold 2' charter(2,0) 'need 0 1;gold 3' charter(3,0) "
                + "'need 0 1;gold 4' charter(4,0)", "all(0,-1,0)", 3125, "all(0,3124,0)", 8, "all(0,3124,4)", 8, "all(0,3125,0)", -1,
                "all(0,1,4)", 5, "all(0,1,3)", -5, "all(0,625,0)", 5, "all(0,625,4)", -5, "all(0,624,0)", -5, "all(0,624,1)", 8);
        edges.due("-9: 6 FIRMS", "6*holder(1,0) holder(2,0)", "all(0,-1,0)", -9, "all(0,0,0)", -9, "all(0,MAX,5)", -9);
        edges.due("-9: 5 RULERS", "holder(1,0) 5*holder(2,0)", "all(0,-1,0)", -9, "all(0,0,0)", -9);
        edges.due("-9: 5 RULERS, KIN among them", "holder(1,0) 2*holder(2,0) holder(3,0) holder(3,1) holder(3,2)", "all(0,-1,0)", -9);
        edges.due("4 RULERS, more PERSONS", "holder(1,0) holder(2,0) 4*holder(3,0) 4*holder(3,1) 4*holder(3,2)", "all(0,-1,0)", 1);
        edges.due("4 RULERS, others beside", "5*holder(1,0) 4*holder(2,0) 3*holder(0,0) 2*holder(4,0) 2*holder(5,0)", "all(0,-1,0)", 1);
        edges.due("NONE ahead of -9", "6*holder(1,0) holder(2,0)", "all(-1,-1,0)", -1, "all(1000,-1,0)", -1, "all(0,-1,6)", -1,
                "all(0,-1,7)", -1, "all(0,-2,0)", -1);
        edges.due("-9 on any DAY", "pass(9) 6*holder(1,0)", "all(0,-1,0)", -9, "all(999,-1,0)", -9);
    }

    private static String pairs(int tape, int... items) {
        StringBuilder s = new StringBuilder("tape(" + tape + ",1," + items.length + ") ");
        for (int i = 0; i < items.length; i++) {
            s.append("item(" + tape + "," + i + "," + items[i] + ") ");
        }
        return s.toString();
    }

    private void proof() {
        edges.of(18);
        String told = CHAIN + pairs(0, 1, 3, 0, 3, 2, 3);
        edges.due("NONE: tape", told, "proof(-1,0,1)", -1, "proof(6,0,1)", -1, "proof(MIN,0,1)", -1, "proof(MAX,0,1)", -1);
        edges.due("BAD: n", told, "proof(0,0,0)", -2, "proof(0,0,8)", -2, "proof(0,0,-1)", -2, "proof(0,0,MIN)", -2, "proof(0,0,MAX)", -2);
        edges.due("NONE ahead of BAD", told, "proof(6,0,0)", -1, "proof(-1,0,8)", -1);
        edges.due("BAD ahead of TORN", told, "proof(1,0,0)", -2, "proof(0,9,8)", -2);
        edges.due("CAST: it is no row of shorts", told + "tape(1,0,6) tape(2,2,6) tape(3,3,6) tape(4,4,6)", "proof(1,0,1)", -12,
                "proof(2,0,1)", -12, "proof(3,0,1)", -12, "proof(4,0,1)", -12);
        edges.due("CAST ahead of TORN", told + "tape(1,0,0) tape(2,2,6)", "proof(1,0,1)", -12, "proof(2,-1,7)", -12, "proof(2,6,1)", -12);
        edges.due("BAD ahead of CAST", told + "tape(1,0,6)", "proof(1,0,0)", -2, "proof(1,0,8)", -2);
        edges.due("TAPES 0 .. 5, the last", told + pairs(5, 1, 3), "proof(5,0,1)", 1);
        edges.due("n pairs (1 .. 7), the first", told, "proof(0,0,1)", 1);
        edges.due("n pairs (1 .. 7), the last", SEVEN + "holder(2,0) share(0,7,1,1) share(1,7,1,1) share(2,7,1,1) share(3,7,1,1) "
                + "share(4,7,1,1) share(5,7,1,1) share(6,7,1,1) " + pairs(0, 6, 7, 5, 7, 4, 7, 3, 7, 2, 7, 1, 7, 0, 7), "proof(0,0,7)", 7,
                "proof(0,0,6)", 6, "proof(0,2,6)", 6, "proof(0,2,7)", 106);
        edges.due("from place i on", told, "proof(0,0,3)", 3, "proof(0,0,2)", 2, "proof(0,2,1)", 0, "proof(0,1,2)", 0);
        edges.due("from a place on: the last row of 60", CHAIN + "tape(0,1,60) item(0,58,1) item(0,59,3) item(0,57,3) item(0,56,1)",
                "proof(0,58,1)", 1, "proof(0,56,2)", 1, "proof(0,59,1)", 100, "proof(0,58,2)", 101);
    }

    private void proofGood() {
        edges.of(18);
        edges.due("a FIRM without a RULER so far", CHAIN + pairs(0, 1, 3, 1, 3, 0, 3), "proof(0,0,3)", 1);
        edges.due("a FIRM without a RULER so far: HOLDER 0 rules it", "holder(2,0) holder(1,0) share(1,0,1,1) " + pairs(0, 1, 0, 1, 0),
                "proof(0,0,1)", 1, "proof(0,0,2)", 1);
        edges.due("told twice anew", CHAIN + pairs(0, 1, 3, 0, 3), "proof(0,0,2)", 2, "proof(0,0,2)", 2, "ruler(2,0)", 3, "proof(0,0,1)", 1);
        edges.due("the first that is not good ends it", CHAIN + pairs(0, 1, 3, 2, 3, 0, 3), "proof(0,0,3)", 1);
        edges.due("no FIRM", CHAIN + pairs(0, 3, 3) + pairs(1, -1, 3) + pairs(2, 5, 3) + pairs(3, 32767, 3) + pairs(4, -32768, 3),
                "proof(0,0,1)", 0, "proof(1,0,1)", 0, "proof(2,0,1)", 0, "proof(3,0,1)", 0, "proof(4,0,1)", 0);
        edges.due("no RULER", CHAIN + pairs(0, 1, 1) + pairs(1, 1, -1) + pairs(2, 1, 5) + pairs(3, 1, 32767) + pairs(4, 1, -32768),
                "proof(0,0,1)", 0, "proof(1,0,1)", 0, "proof(2,0,1)", 0, "proof(3,0,1)", 0, "proof(4,0,1)", 0);
        edges.due("a RULER: its least KIN", "holder(1,0) holder(3,0) holder(3,0) share(0,2,1,1) " + pairs(0, 0, 1) + pairs(1, 0, 2),
                "proof(0,0,1)", 1, "proof(1,0,1)", 0);
        edges.due("a RULER whose GROUP CARRIES, not another", CHAIN + pairs(0, 1, 4), "proof(0,0,1)", 0);
        edges.due("as told so far", CHAIN + pairs(0, 0, 3, 1, 3) + pairs(1, 1, 3, 0, 3), "proof(0,0,2)", 0, "proof(1,0,2)", 2);
        edges.due("not by LEAST: another that CARRIES", RULED + "'need 0 1' charter(0,0) " + pairs(0, 0, 2) + pairs(1, 0, 1),
                "proof(0,0,1)", 1, "proof(1,0,1)", 1, "ruler(0,0)", 1);
        edges.due("TODAY", RULED + pairs(0, 0, 1) + pairs(1, 0, 2) + "pass(5) sale(0,2)", "proof(0,0,1)", 0, "proof(1,0,1)", 1);
        edges.due("TODAY: charters", RULED + pairs(0, 0, 1) + "'gold 2' charter(0,5) pass(4)", "proof(0,0,1)", 1, "pass(1)", 5,
                "proof(0,0,1)", 0);
        edges.due("gold of a FIRM told so far", CHAIN + "'gold 1' charter(0,0) " + pairs(0, 1, 3, 0, 3), "proof(0,0,2)", 2);
        edges.due("gold of a FIRM not told so far", CHAIN + "'gold 2' charter(0,0) " + pairs(0, 1, 3, 0, 3), "proof(0,0,2)", 1);
        edges.due("shorts keep their lowest bits", CHAIN + pairs(0, 65537, -65533), "proof(0,0,1)", 1);
    }

    private void proofTorn() {
        edges.of(18);
        String told = CHAIN + pairs(0, 1, 3, 0, 3, 2);
        edges.due("TORN: the row is missing", CHAIN, "proof(0,0,1)", 100, "proof(5,0,7)", 100, "proof(0,-1,1)", 100);
        edges.due("TORN: the row is missing again", told + "tape(0,-1,0)", "proof(0,0,1)", 100);
        edges.due("TORN: a row of 0", CHAIN + "tape(0,1,0)", "proof(0,0,1)", 100, "proof(0,0,7)", 100);
        edges.due("TORN: a row of 1", CHAIN + "tape(0,1,1)", "proof(0,0,1)", 100);
        edges.due("not all these 2 n places: one short", told, "proof(0,0,2)", 2, "proof(0,0,3)", 102, "proof(0,0,7)", 102);
        edges.due("not all these 2 n places: two short", CHAIN + pairs(0, 1, 3, 0, 3), "proof(0,0,3)", 102);
        edges.due("just all these 2 n places", CHAIN + pairs(0, 1, 3, 0, 3, 2, 3), "proof(0,0,3)", 3, "proof(0,4,1)", 0, "proof(0,5,1)", 100);
        edges.due("whether pairs are good or not", CHAIN + pairs(0, 0, 3, 1, 3), "proof(0,0,2)", 0, "proof(0,0,3)", 100);
        edges.due("those that are whole are looked at", CHAIN + pairs(0, 1, 3, 1, 3, 0), "proof(0,0,3)", 101);
        edges.due("ahead of the row", told, "proof(0,-1,1)", 100, "proof(0,-1,3)", 100, "proof(0,-2,1)", 100);
        edges.due("ahead of the row: the first is none of the good ones", told, "proof(0,-2,2)", 100, "proof(0,-2,3)", 100);
        edges.due("behind the row", told, "proof(0,4,1)", 100, "proof(0,5,1)", 100, "proof(0,6,1)", 100, "proof(0,60,1)", 100);
    }

    private void proofFarOff() {
        edges.of(18);
        String told = CHAIN + pairs(0, 1, 3, 0, 3, 2, 3);
        edges.due("a place that wraps around", told, "proof(0,MAX,1)", 100, "proof(0,MAX,7)", 100, "proof(0,2147483646,7)", 100,
                "proof(0,2147483640,7)", 100, "proof(0,MIN,1)", 100, "proof(0,MIN,7)", 100, "proof(0,-14,7)", 100, "proof(0,-13,7)", 100);
    }
}
