/** The edges that promises 31 to 34 name, sentence by sentence: acts, the trace, kinds. */
public final class EdgesOfActsTest {
    /** Holder k is of kind k; the kin is of family 2. */
    private static final String KINDS = "holder(0,0) holder(1,0) holder(2,0) holder(3,2) holder(4,0) holder(5,0) ";

    private final Edges edges = new Edges("edges of acts");

    public static void main(String[] args) {
        EdgesOfActsTest t = new EdgesOfActsTest();
        t.wrong();
        t.bodies();
        t.wraps();
        t.trace();
        t.taken();
        t.count();
        t.edges.end();
    }

    private void wrong() {
        edges.of(31);
        for (String act : new String[] {"-1,0", "6,0", "MIN,0", "MAX,0", "0,-1", "0,3", "5,MIN", "5,MAX", "6,3", "-1,-1"}) {
            edges.due("0, and no TRACE then: no such HOLDER, act", KINDS, "act(5,2,1)", (((14 * 2) - (14 * 2)) ^ 5), "act(" + act + ",7)", 0,
                    "trace(0)", -1, "trace(1)", -1, "count(9)", 0);
        }
        edges.due("no HOLDERS", "", "act(0,0,7)", 0, "trace(0)", -1, "count(9)", 0);
    }

    private void ran(String words, int holder, int act, int x, int due, int... bodies) {
        Object[] row = new Object[2 * bodies.length + 8];
        row[0] = "act(" + holder + "," + act + "," + x + ")";
        row[1] = due;
        for (int i = 0; i < bodies.length; i++) {
            row[2 + 2 * i] = "trace(" + i + ")";
            row[3 + 2 * i] = bodies[i];
        }
        row[2 * bodies.length + 2] = "trace(" + bodies.length + ")";
        row[2 * bodies.length + 3] = -1;
        row[2 * bodies.length + 4] = "trace(-1)";
        row[2 * bodies.length + 5] = -1;
        row[2 * bodies.length + 6] = "count(9)";
        row[2 * bodies.length + 7] = bodies.length;
        edges.due(words, KINDS, row);
    }

    private void bodies() {
        edges.of(31);
        ran("HOLDER 10 votes: x + i", 0, 0, 5, 5, 10);
        ran("11 owns: votes(x) * 2", 0, 1, 5, 10, 11, 10);
        ran("12 rules: owns(x) - f", 0, 2, 5, 10, 12, 11, 10);
        ran("FIRM 20 votes: super.votes(x) ^ 6", 1, 0, 4, 3, 20, 10);
        ran("FIRM has no owns", 1, 1, 4, 6, 11, 20, 10);
        ran("FIRM 21 rules: super.rules(x) + votes(1)", 1, 2, 4, 10, 21, 12, 11, 20, 10, 20, 10);
        ran("PERSON has no votes", 2, 0, 5, 7, 10);
        ran("PERSON 30 owns: super.owns(x * 3)", 2, 1, 5, 34, 30, 11, 10);
        ran("PERSON has no rules", 2, 2, 5, 34, 12, 30, 11, 10);
        ran("KIN 40 votes: -super.votes(x)", 3, 0, 5, -8, 40, 10);
        ran("KIN 41 owns: super.owns(x) + super.votes(f)", 3, 1, 5, -31, 41, 30, 11, 40, 10, 10);
        ran("KIN has no rules: owns(x) - f", 3, 2, 5, -33, 12, 41, 30, 11, 40, 10, 10);
        ran("FUND has no votes", 4, 0, 5, 9, 10);
        ran("FUND has no owns", 4, 1, 5, 18, 11, 10);
        ran("FUND 50 rules: owns(x) - super.rules(x)", 4, 2, 5, 0, 50, 11, 10, 12, 11, 10);
        ran("CLUB 60 votes: super.votes(x + 4)", 5, 0, 5, 14, 60, 10);
        ran("CLUB has no owns", 5, 1, 5, 28, 11, 60, 10);
        ran("CLUB 61 rules: super.rules(x) ^ i", 5, 2, 5, 5, 61, 50, 11, 60, 10, 12, 11, 60, 10);
    }

    private void wraps() {
        edges.of(31);
        edges.due("wrapping: x + i", KINDS, "act(5,0,MAX)", Integer.MIN_VALUE + 8, "act(2,0,2147483645)", Integer.MAX_VALUE,
                "act(2,0,2147483646)", Integer.MIN_VALUE, "act(0,0,MIN)", Integer.MIN_VALUE);
        edges.due("wrapping: votes(x) * 2", KINDS, "act(0,1,MAX)", -2, "act(0,1,MIN)", 0, "act(0,1,1073741824)", Integer.MIN_VALUE,
                "act(0,1,1073741823)", 2147483646);
        edges.due("wrapping: x * 3", KINDS, "act(2,1,715827883)", (715827883 * 3 + 2) * 2, "act(2,1,MAX)", (Integer.MAX_VALUE * 3 + 2) * 2,
                "act(2,1,MIN)", (Integer.MIN_VALUE * 3 + 2) * 2);
        edges.due("wrapping: -super.votes(x)", KINDS, "act(3,0,2147483645)", Integer.MIN_VALUE, "act(3,0,MIN)", Integer.MAX_VALUE - 2);
        edges.due("wrapping: owns(x) - f", KINDS, "act(3,2,MIN)", -(Integer.MIN_VALUE * 3 + 3) * 2 + 5 - 2, "act(3,2,MAX)",
                -(Integer.MAX_VALUE * 3 + 3) * 2 + 5 - 2);
        edges.due("wrapping: super.votes(x) ^ 6", KINDS, "act(1,0,MAX)", Integer.MIN_VALUE ^ 6, "act(1,2,MAX)",
                (Integer.MIN_VALUE ^ 6) * 2 + (2 ^ 6));
        edges.due("x 0 and below 0", KINDS, "act(1,0,0)", 7, "act(1,0,-1)", 6, "act(2,1,-1)", -2, "act(5,0,-9)", 0, "act(3,0,-3)", 0);
        edges.due("f 0 .. 3", "holder(3,0) holder(3,3)", "act(0,1,1)", -6 + 0, "act(0,2,1)", -6, "act(1,1,1)", -8 + 4, "act(1,2,1)", -7);
        edges.due("i 0 .. 15", "15*holder(0,0) holder(5,0)", "act(0,0,0)", 0, "act(14,0,0)", 14, "act(15,0,0)", 19, "act(15,2,0)", 15);
    }

    private void trace() {
        edges.of(32);
        edges.due("NONE: no act yet", KINDS, "trace(0)", -1, "trace(-1)", -1, "trace(19)", -1, "trace(20)", -1);
        edges.due("THE TRACE's i-th body, the first and the last", KINDS + "act(5,2,5)", "trace(0)", 61, "trace(8)", 10, "trace(9)", -1);
        edges.due("NONE", KINDS + "act(5,2,5)", "trace(-1)", -1, "trace(9)", -1, "trace(19)", -1, "trace(20)", -1, "trace(21)", -1,
                "trace(MIN)", -1, "trace(MAX)", -1);
        edges.due("of the latest act(): a shorter one", KINDS + "act(5,2,5) act(0,0,5)", "trace(0)", 10, "trace(1)", -1, "trace(8)", -1);
        edges.due("of the latest act(): a longer one", KINDS + "act(0,0,5) act(5,2,5)", "trace(0)", 61, "trace(1)", 50);
        edges.due("of the latest act(): none such", KINDS + "act(5,2,5) act(6,0,5)", "trace(0)", -1, "trace(8)", -1);
        edges.due("other calls leave it", KINDS + "act(1,2,5) holder(0,0) pass(1) motion(1,2) tape(0,1,2)", "trace(0)", 21, "trace(6)", 10,
                "trace(7)", -1);
    }

    private void taken() {
        edges.of(33);
        int[][] above = {{0}, {1, 0}, {2, 0}, {3, 2, 0}, {4, 0}, {5, 4, 0}};
        for (int kind = 0; kind < 6; kind++) {
            for (int k = 0; k < 6; k++) {
                boolean under = false;
                for (int a : above[kind]) {
                    under |= a == k;
                }
                edges.due("one of KIND k, or one under that", KINDS, "taken(" + kind + "," + k + ")", under ? kind : -12);
            }
        }
        edges.due("BAD: k", KINDS, "taken(0,-1)", -2, "taken(0,6)", -2, "taken(5,MIN)", -2, "taken(5,MAX)", -2);
        edges.due("NOTHING: no such HOLDER", KINDS, "taken(-1,0)", -11, "taken(6,0)", -11, "taken(MIN,5)", -11, "taken(MAX,0)", -11);
        edges.due("NOTHING ahead of CAST", KINDS, "taken(6,1)", -11, "taken(-1,5)", -11);
        edges.due("BAD ahead of NOTHING", KINDS, "taken(6,6)", -2, "taken(-1,-1)", -2);
        edges.due("the last HOLDER", "15*holder(0,0) holder(5,0)", "taken(15,5)", 5, "taken(15,1)", -12, "taken(16,5)", -11);
    }

    private void count() {
        edges.of(34);
        edges.due("bodies that ran in the latest act()", KINDS, "count(9)", 0, "act(5,2,5)", 5, "count(9)", 9, "act(0,0,5)", 5, "count(9)", 1,
                "act(0,3,5)", 0, "count(9)", 0);
    }
}
