/** The edges that promises 19 to 21 name, sentence by sentence: worth, hollow firms, turns. */
public final class EdgesOfWorthTest {
    private static final long NO = Long.MIN_VALUE;
    /** Firm 0, persons 1 and 2. */
    private static final String THREE = "holder(1,0) holder(2,0) holder(2,0) ";
    private static final String SEVEN = "7*holder(1,0) ";

    private final Edges edges = new Edges("edges of worth");

    public static void main(String[] args) {
        EdgesOfWorthTest t = new EdgesOfWorthTest();
        t.worthNumbers();
        t.worth();
        t.worthOnward();
        t.worthOfSeven();
        t.hollow();
        t.hollowRings();
        t.pivot();
        t.pivotBlocks();
        t.pivotNeed();
        t.pivotGold();
        t.pivotMany();
        t.edges.end();
    }

    private void worthIs(String words, String world, int firm, int holder, long above, long below) {
        edges.due(words, world, "worth(" + firm + "," + holder + ",0)", above, "worth(" + firm + "," + holder + ",1)", below);
    }

    private void worthNumbers() {
        edges.of(19);
        String world = THREE + "holder(1,0) share(0,1,5,1) ";
        edges.due("NO: no such FIRM", world, "worth(-1,1,0)", NO, "worth(1,1,0)", NO, "worth(4,1,0)", NO, "worth(MIN,1,1)", NO,
                "worth(MAX,1,1)", NO);
        edges.due("NO: no such HOLDER", world, "worth(0,-1,0)", NO, "worth(0,4,0)", NO, "worth(0,MIN,1)", NO, "worth(0,MAX,1)", NO);
        edges.due("NO: no such part", world, "worth(0,1,-1)", NO, "worth(0,1,2)", NO, "worth(0,1,MIN)", NO, "worth(0,1,MAX)", NO);
        edges.due("NO: the HOLDER is a FIRM", world, "worth(0,0,0)", NO, "worth(0,3,0)", NO, "worth(0,3,1)", NO, "worth(3,0,1)", NO);
        edges.due("part 0 above, 1 below the line", world, "worth(0,1,0)", 5, "worth(0,1,1)", 12);
        edges.due("for a HOLDER of each KIND but FIRM", "holder(1,0) holder(0,0) holder(2,0) holder(3,0) holder(4,0) holder(5,0) "
                + "share(0,1,1,0) share(0,2,2,0) share(0,3,3,0) share(0,4,4,0) share(0,5,2,0)", "worth(0,1,1)", 12, "worth(0,2,1)", 6,
                "worth(0,3,1)", 4, "worth(0,4,1)", 3, "worth(0,5,1)", 6);
    }

    private void worth() {
        edges.of(19);
        worthIs("0 by 1: no SHARES", THREE, 0, 1, 0, 1);
        worthIs("0 by 1: of 0 PARTS", THREE + "share(0,1,0,9)", 0, 1, 0, 1);
        worthIs("0 by 1: another's", THREE + "share(0,1,12,9)", 0, 2, 0, 1);
        worthIs("0 by 1: a HOLLOW FIRM", THREE + "share(0,0,12,9) share(0,1,0,9)", 0, 1, 0, 1);
        worthIs("by 12ths: one", THREE + "share(0,1,1,0)", 0, 1, 1, 12);
        worthIs("by 12ths: 11", THREE + "share(0,1,11,0)", 0, 1, 11, 12);
        worthIs("by 12ths: all", THREE + "share(0,1,12,0)", 0, 1, 1, 1);
        worthIs("in lowest terms", THREE + "share(0,1,8,0) share(0,2,4,0)", 0, 1, 2, 3);
        worthIs("in lowest terms", THREE + "share(0,1,8,0) share(0,2,4,0)", 0, 2, 1, 3);
        worthIs("of several SHARES", THREE + "share(0,1,1,0) share(0,1,2,0) share(0,1,0,0) share(0,2,9,0)", 0, 1, 1, 4);
        worthIs("what is nobody's is lost", THREE + "share(0,1,6,0)", 0, 1, 1, 2);
        worthIs("those that have its SHARES (TODAY)", THREE + "share(0,1,6,0) pass(5) sale(0,2)", 0, 2, 1, 2);
        worthIs("those that had its SHARES have none TODAY", THREE + "share(0,1,6,0) pass(5) sale(0,2)", 0, 1, 0, 1);
    }

    private void worthOnward() {
        edges.of(19);
        worthIs("what comes to a FIRM goes on likewise", THREE + "holder(1,0) share(0,3,6,0) share(3,1,4,0)", 0, 1, 1, 6);
        worthIs("to itself: all comes out at last", THREE + "share(0,0,11,0) share(0,1,1,0)", 0, 1, 1, 1);
        worthIs("to itself: a part is lost each time", THREE + "share(0,0,10,0) share(0,1,1,0)", 0, 1, 1, 2);
        worthIs("in a ring of two", THREE + "holder(1,0) share(0,3,6,0) share(3,0,6,0) share(0,1,6,0) share(3,2,6,0)", 0, 1, 2, 3);
        worthIs("in a ring of two, the other", THREE + "holder(1,0) share(0,3,6,0) share(3,0,6,0) share(0,1,6,0) share(3,2,6,0)", 0, 2, 1, 3);
        worthIs("what comes to a HOLLOW FIRM stays there", THREE + "holder(1,0) share(0,3,6,0) share(0,1,6,0) share(3,3,12,0)", 0, 1, 1, 2);
        worthIs("of a FIRM behind, nothing comes back", THREE + "holder(1,0) share(0,3,6,0) share(3,1,4,0)", 3, 1, 1, 3);
        worthIs("two ways to one HOLDER", THREE + "holder(1,0) share(0,3,6,0) share(0,1,6,0) share(3,1,12,0)", 0, 1, 1, 1);
        edges.due("asked after another FIRM", THREE + "holder(1,0) share(0,1,6,0) share(3,3,12,0)", "worth(0,1,0)", 1, "worth(0,1,1)", 2,
                "worth(3,1,0)", 0, "worth(3,1,1)", 1, "hollow(3)", 1, "hollow(0)", 0);
        worthIs("for HOLDER 0, of the last FIRM", "holder(2,0) 14*holder(0,0) holder(1,0) share(15,0,7,0)", 15, 0, 7, 12);
        worthIs("a FIRM that another has, without SHARES of its own", THREE + "holder(1,0) share(0,3,12,0)", 0, 1, 0, 1);
    }

    private void worthOfSeven() {
        edges.of(19);
        String ring = SEVEN + "holder(2,0) holder(2,0) share(0,1,6,0) share(1,2,6,0) share(2,3,6,0) share(3,4,6,0) share(4,5,6,0) "
                + "share(5,6,6,0) share(6,0,6,0) share(6,7,6,0) ";
        worthIs("a ring of seven", ring, 0, 7, 1, 127);
        worthIs("a ring of seven, the last", ring, 6, 7, 64, 127);
        worthIs("a ring of seven, each of which has another owner", ring + "share(0,8,6,0)", 0, 8, 64, 127);
        worthIs("seven FIRMS that have 11 of themselves and one of the next", SEVEN + "holder(2,0) share(0,0,11,0) share(1,1,11,0) "
                + "share(2,2,11,0) share(3,3,11,0) share(4,4,11,0) share(5,5,11,0) share(6,6,11,0) share(0,1,1,0) share(1,2,1,0) "
                + "share(2,3,1,0) share(3,4,1,0) share(4,5,1,0) share(5,6,1,0) share(6,7,1,0)", 0, 7, 1, 1);
        worthIs("one 12th seven times", SEVEN + "holder(2,0) share(0,1,1,0) share(1,2,1,0) share(2,3,1,0) share(3,4,1,0) share(4,5,1,0) "
                + "share(5,6,1,0) share(6,7,1,0)", 0, 7, 1, 35831808);
        worthIs("11 12ths seven times", SEVEN + "holder(2,0) share(0,1,11,0) share(1,2,11,0) share(2,3,11,0) share(3,4,11,0) "
                + "share(4,5,11,0) share(5,6,11,0) share(6,7,11,0)", 0, 7, 19487171, 35831808);
    }

    private void hollow() {
        edges.of(20);
        edges.due("NONE", THREE, "hollow(-1)", -1, "hollow(1)", -1, "hollow(3)", -1, "hollow(MIN)", -1, "hollow(MAX)", -1);
        edges.due("nobody's is lost: all", THREE, "hollow(0)", 0);
        edges.due("nobody's is lost: one 12th", THREE + "share(0,0,11,1)", "hollow(0)", 0);
        edges.due("all in itself", THREE + "share(0,0,12,1)", "hollow(0)", 1);
        edges.due("all in itself, of several SHARES", THREE + "share(0,0,5,1) share(0,0,7,1)", "hollow(0)", 1);
        edges.due("0 PARTS bring nothing to one that is no FIRM", THREE + "share(0,0,12,1) share(0,1,0,9)", "hollow(0)", 1);
        edges.due("one 12th comes to one that is no FIRM", THREE + "share(0,0,11,1) share(0,1,1,0)", "hollow(0)", 0);
        edges.due("to a FUND, a CLUB, a HOLDER", "holder(1,0) holder(4,0) holder(5,0) holder(0,0) share(0,0,11,1) share(0,1,1,0)",
                "hollow(0)", 0, "sale(1,2)", 1, "hollow(0)", 0, "sale(1,3)", 2, "hollow(0)", 0, "sale(1,0)", 3, "hollow(0)", 1);
        edges.due("TODAY", THREE + "share(0,1,12,1) pass(5) sale(0,0)", "hollow(0)", 1, "sale(0,1)", 2, "hollow(0)", 0);
    }

    private void hollowRings() {
        edges.of(20);
        String seven = SEVEN + "holder(2,0) share(0,1,12,0) share(1,2,12,0) share(2,3,12,0) share(3,4,12,0) share(4,5,12,0) "
                + "share(5,6,12,0) ";
        edges.due("nothing comes ever: a ring of seven", seven + "share(6,0,12,0)", "hollow(0)", 1, "hollow(3)", 1, "hollow(6)", 1);
        edges.due("comes at last: a chain of seven", seven + "share(6,7,12,0)", "hollow(0)", 0, "hollow(3)", 0, "hollow(6)", 0);
        edges.due("lost at last: a chain of seven", seven + "share(6,0,11,0)", "hollow(0)", 0, "hollow(3)", 0, "hollow(6)", 0);
        edges.due("lost at last: the last has no SHARES", seven, "hollow(0)", 0, "hollow(6)", 0);
        edges.due("a chain the other way", "7*holder(1,0) holder(2,0) share(6,5,12,0) share(5,4,12,0) share(4,3,12,0) share(3,2,12,0) "
                + "share(2,1,12,0) share(1,0,12,0) share(0,7,12,0)", "hollow(6)", 0, "hollow(0)", 0);
        edges.due("a part goes into a HOLLOW one, a part out", THREE + "holder(1,0) share(0,3,11,0) share(0,1,1,0) share(3,3,12,0)",
                "hollow(0)", 0, "hollow(3)", 1);
        edges.due("all goes into a HOLLOW one", THREE + "holder(1,0) share(0,3,12,0) share(3,3,12,0)", "hollow(0)", 1, "hollow(3)", 1);
    }

    /** Firm 0 and persons 1 and more of so many votes. */
    private static String voters(int... votes) {
        StringBuilder s = new StringBuilder("holder(1,0) ");
        for (int k = 0; k < votes.length; k++) {
            s.append("holder(2,0) share(0," + (k + 1) + ",0," + votes[k] + ") ");
        }
        return s.toString();
    }

    private void pivot() {
        edges.of(21);
        edges.due("NONE: firm", voters(1, 1), "pivot(-1,1)", -1, "pivot(1,1)", -1, "pivot(3,1)", -1, "pivot(MIN,1)", -1, "pivot(MAX,1)", -1);
        edges.due("NONE: holder", voters(1, 1), "pivot(0,-1)", -1, "pivot(0,3)", -1, "pivot(0,MIN)", -1, "pivot(0,MAX)", -1);
        edges.due("no SHARES: 0", THREE, "pivot(0,0)", 0, "pivot(0,1)", 0);
        edges.due("0 if it has no BLOCK there: 0 VOTES", voters(3, 2, 2, 0), "pivot(0,4)", 0, "pivot(0,0)", 0, "pivot(0,1)", 2);
        edges.due("0 if it has no BLOCK there: a FUND", voters(1, 1) + "holder(4,0) share(0,3,0,9)", "pivot(0,3)", 0);
        edges.due("0 if it has no BLOCK there: the FIRM itself", voters(1, 1) + "share(0,0,0,9)", "pivot(0,0)", 0);
        edges.due("alone: in the one way that there is", voters(5), "pivot(0,1)", 1);
        edges.due("two of the same VOTES", voters(5, 5), "pivot(0,1)", 1, "pivot(0,2)", 1);
        edges.due("one that has more than half", voters(5, 4), "pivot(0,1)", 2, "pivot(0,2)", 0);
        edges.due("just half turns nothing alone", voters(4, 2, 2), "pivot(0,1)", 3, "pivot(0,2)", 1, "pivot(0,3)", 1);
        edges.due("three of the same VOTES", voters(1, 1, 1), "pivot(0,1)", 2, "pivot(0,3)", 2);
        edges.due("VOTES that sleep make no BLOCK", voters(5, 4, 3) + "'sleep v<4' charter(0,0)", "pivot(0,3)", 0, "pivot(0,1)", 2);
        edges.due("TODAY", voters(5, 5) + "pass(5) sale(0,2)", "pivot(0,1)", 0, "pivot(0,2)", 1);
    }

    private void pivotBlocks() {
        edges.of(21);
        edges.due("each FIRM votes as its RULER does", "2*holder(1,0) holder(2,0) 2*holder(2,0) share(1,2,0,1) share(0,1,0,3) share(0,2,0,1) "
                + "share(0,3,0,2) share(0,4,0,2)", "pivot(0,2)", 3, "pivot(0,1)", 3, "pivot(0,3)", 1, "pivot(0,4)", 1);
        edges.due("each FIRM votes as its RULER does, who has no VOTES there", "2*holder(1,0) holder(2,0) 2*holder(2,0) share(1,2,0,1) "
                + "share(0,1,0,3) share(0,3,0,2) share(0,4,0,2)", "pivot(0,1)", 2, "pivot(0,2)", 2);
        edges.due("other HOLDERS alone: a FIRM without a RULER", "2*holder(1,0) holder(2,0) holder(0,0) share(0,1,0,3) share(0,2,0,2) "
                + "share(0,3,0,2)", "pivot(0,1)", 2, "pivot(0,2)", 2, "pivot(0,3)", 2);
        edges.due("KIN as the least of their FAMILY", "holder(1,0) 2*holder(3,1) holder(3,2) holder(2,0) share(0,2,0,3) share(0,3,0,2) "
                + "share(0,4,0,2)", "pivot(0,1)", 2, "pivot(0,2)", 2, "pivot(0,3)", 2);
        edges.due("KIN together are one BLOCK", "holder(1,0) 2*holder(3,1) 2*holder(2,0) share(0,1,0,2) share(0,2,0,2) share(0,3,0,2) "
                + "share(0,4,0,1)", "pivot(0,1)", 4, "pivot(0,3)", 0);
        edges.due("PERSONS are no FAMILY", "holder(1,0) 2*holder(2,0) holder(3,0) share(0,1,0,2) share(0,2,0,2) share(0,3,0,2)",
                "pivot(0,1)", 2, "pivot(0,2)", 2, "pivot(0,3)", 2);
        edges.due("HOLDER 0 and a FIRM that it rules", "holder(2,0) 2*holder(1,0) 2*holder(2,0) share(1,0,0,1) share(2,1,0,3) share(2,3,0,2) "
                + "share(2,4,0,2)", "pivot(2,0)", 2, "pivot(2,1)", 2, "pivot(2,3)", 2);
        edges.due("HOLDER 0 with VOTES", "holder(2,0) holder(1,0) 2*holder(2,0) share(1,0,0,3) share(1,2,0,2) share(1,3,0,2)", "pivot(1,0)", 2,
                "pivot(1,2)", 2, "pivot(1,1)", 0);
        edges.due("by LEAST of TODAY", "2*holder(1,0) 2*holder(2,0) share(1,2,0,1) share(0,1,0,3) share(0,3,0,2) pass(5) sale(0,3)",
                "pivot(0,3)", 1, "pivot(0,1)", 1, "pivot(0,2)", 0);
    }

    private void pivotNeed() {
        edges.of(21);
        edges.due("CARRIES with it, and not without: need 0 1", voters(3, 2, 2) + "'need 0 1' charter(0,0)", "pivot(0,1)", 1, "pivot(0,3)", 1);
        edges.due("all must say yes", voters(3, 2, 2) + "'need 6 7' charter(0,0)", "pivot(0,1)", 1, "pivot(0,2)", 1);
        edges.due("nothing CARRIES ever", voters(3, 2, 2) + "'need 1 1' charter(0,0)", "pivot(0,1)", 0, "pivot(0,2)", 0);
        edges.due("just as many is not more", voters(3, 2, 2) + "'need 5 7' charter(0,0)", "pivot(0,1)", 1, "pivot(0,2)", 1);
        edges.due("a little more", voters(3, 2, 2) + "'need 4 7' charter(0,0)", "pivot(0,1)", 3, "pivot(0,2)", 1);
        edges.due("most", voters(9, 2, 2) + "'most 3' charter(0,0)", "pivot(0,1)", 2, "pivot(0,2)", 2);
    }

    private void pivotGold() {
        edges.of(21);
        edges.due("or are its HOLDER of gold, without VOTES", voters(3, 2, 2) + "holder(0,0) 'gold 4' charter(0,0)", "pivot(0,4)", 4,
                "pivot(0,1)", 2, "pivot(0,2)", 2);
        edges.due("the FIRM itself is gold", voters(3, 2, 2) + "'gold 0' charter(0,0)", "pivot(0,0)", 4, "pivot(0,1)", 2);
        edges.due("a FUND is gold", voters(3, 2, 2) + "holder(4,0) 'gold 4' charter(0,0)", "pivot(0,4)", 4, "pivot(0,3)", 2);
        edges.due("gold with VOTES", voters(3, 2, 2) + "'gold 2' charter(0,0)", "pivot(0,2)", 3, "pivot(0,1)", 1, "pivot(0,3)", 1);
        edges.due("gold with the most VOTES", voters(3, 2, 2, 5) + "'gold 4' charter(0,0)", "pivot(0,4)", 7, "pivot(0,1)", 1, "pivot(0,2)", 1,
                "pivot(0,3)", 1);
        edges.due("gold with VOTES, need 2 3", voters(4, 2, 1, 3) + "'gold 4;need 2 3' charter(0,0)", "pivot(0,4)", 4, "pivot(0,1)", 4,
                "pivot(0,2)", 0, "pivot(0,3)", 0);
        edges.due("gold is HOLDER 0", "holder(2,0) holder(1,0) 2*holder(2,0) share(1,2,0,3) share(1,3,0,2) 'gold 0' charter(1,0)",
                "pivot(1,0)", 2, "pivot(1,2)", 2, "pivot(1,3)", 0);
        edges.due("gold of nobody", voters(3, 2, 2) + "'gold 4' charter(0,0)", "pivot(0,1)", 2, "pivot(0,2)", 2);
        edges.due("gold of KIN without VOTES", "holder(1,0) 2*holder(3,1) 2*holder(2,0) share(0,1,0,3) share(0,3,0,2) share(0,4,0,2) "
                + "'gold 2' charter(0,0)", "pivot(0,1)", 3, "pivot(0,2)", 3, "pivot(0,3)", 1);
        edges.due("gold alone, no VOTES at all", THREE + "'gold 1' charter(0,0)", "pivot(0,1)", 0, "pivot(0,2)", 0);
        edges.due("gold turns in all ways that CARRY", voters(1, 1, 1) + "holder(0,0) 'gold 4;need 0 1' charter(0,0)", "pivot(0,4)", 7,
                "pivot(0,1)", 1);
    }

    private void pivotMany() {
        edges.of(21);
        edges.due("15 of one VOTE", voters(1, 1, 1, 1, 1, 1, 1, 1, 1, 1, 1, 1, 1, 1, 1), "pivot(0,1)", 3432, "pivot(0,15)", 3432,
                "pivot(0,0)", 0);
        edges.due("16 BLOCKS: all ways of the others", voters(1, 1, 1, 1, 1, 1, 1, 1, 1, 1, 1, 1, 1, 1, 1) + "'need 0 1;gold 0' charter(0,0)",
                "pivot(0,0)", 32767, "pivot(0,1)", 1, "pivot(0,15)", 1);
        edges.due("one of 15 that has all", voters(99, 1, 1, 1, 1, 1, 1, 1, 1, 1, 1, 1, 1, 1, 1), "pivot(0,1)", 16384, "pivot(0,2)", 0);
    }
}
