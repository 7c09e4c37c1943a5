/** The edges that promises 35 to 38 name, sentence by sentence: tapes, their items, what is shifted. */
public final class EdgesOfTapesTest {
    private static final long NO = Long.MIN_VALUE;
    /** Ints: tape 0 of 3 items 1, 2, 3 and tape 1 of 4 items 5, 6, 7, 8. */
    private static final String TWO = "tape(0,2,3) item(0,0,1) item(0,1,2) item(0,2,3) "
            + "tape(1,2,4) item(1,0,5) item(1,1,6) item(1,2,7) item(1,3,8) ";

    private final Edges edges = new Edges("edges of tapes");

    public static void main(String[] args) {
        EdgesOfTapesTest t = new EdgesOfTapesTest();
        t.tape();
        t.tapeOfNothing();
        t.item();
        t.itemBits();
        t.read();
        t.shift();
        t.shiftPlaces();
        t.shiftOrder();
        t.shiftOverlaps();
        t.edges.end();
    }

    private void tape() {
        edges.of(35);
        edges.due("NONE: tape", TWO, "tape(-1,0,1)", -1, "tape(6,0,1)", -1, "tape(MIN,0,1)", -1, "tape(MAX,0,1)", -1);
        edges.due("TAPES 0 .. 5", "", "tape(0,0,1)", 1, "tape(5,0,1)", 1, "read(0,0)", 0, "read(5,0)", 0, "read(1,0)", NO, "read(4,0)", NO);
        edges.due("BAD: sort", TWO, "tape(0,-2,1)", -2, "tape(0,5,1)", -2, "tape(0,MIN,1)", -2, "tape(0,MAX,1)", -2, "read(0,1)", 2);
        edges.due("sorts 0 to 4", "", "tape(0,0,1)", 1, "tape(1,1,1)", 1, "tape(2,2,1)", 1, "tape(3,3,1)", 1, "tape(4,4,1)", 1,
                "shift(0,0,1,0,0)", -12, "shift(3,0,4,0,0)", -12);
        edges.due("a row of n (0 .. 60), the first", TWO, "tape(0,2,0)", 1, "read(0,0)", NO, "item(0,0,1)", -13, "shift(0,0,0,0,0)", 0);
        edges.due("a row of n (0 .. 60), the last", TWO, "tape(0,2,60)", 1, "read(0,59)", 0, "read(0,60)", NO, "item(0,59,9)", 1,
                "item(0,60,9)", -13, "read(0,59)", 9);
        edges.due("BAD: n above 60", TWO, "tape(0,2,61)", -2, "tape(0,0,MAX)", -2, "tape(5,4,61)", -2, "read(0,2)", 3, "read(0,3)", NO);
        edges.due("SIZE", TWO, "tape(0,2,-1)", -14, "tape(0,0,MIN)", -14, "tape(5,4,-60)", -14, "read(0,2)", 3, "item(5,0,1)", -11);
        edges.due("NONE ahead of BAD and SIZE", TWO, "tape(6,5,61)", -1, "tape(-1,0,-1)", -1);
        edges.due("BAD ahead of SIZE", TWO, "tape(0,5,-1)", -2, "tape(0,-2,MIN)", -2);
        edges.due("all 0", TWO, "tape(1,2,4)", 1, "read(1,0)", 0, "read(1,3)", 0);
        edges.due("all 0: a longer row", TWO, "tape(1,2,2)", 1, "tape(1,2,4)", 1, "read(1,2)", 0, "read(1,3)", 0);
        edges.due("all 0: of another sort", TWO, "tape(1,4,4)", 1, "read(1,0)", 0, "item(1,0,-5)", 1, "read(1,0)", 1);
        edges.due("a shorter row", TWO, "tape(1,2,2)", 1, "read(1,2)", NO, "item(1,2,1)", -13);
    }

    private void tapeOfNothing() {
        edges.of(35);
        edges.due("or holds nothing (sort -1)", TWO, "tape(0,-1,0)", 1, "read(0,0)", NO, "item(0,0,1)", -11, "shift(0,0,1,0,0)", -11,
                "read(1,0)", 5);
        edges.due("sort -1: n does not matter", TWO, "tape(0,-1,61)", 1, "read(0,0)", NO, "tape(1,-1,-1)", 1, "read(1,0)", NO,
                "tape(2,-1,MIN)", 1, "tape(3,-1,MAX)", 1, "item(2,0,1)", -11, "item(3,0,1)", -11);
        edges.due("sort -1 of no TAPE", TWO, "tape(6,-1,0)", -1, "tape(-1,-1,0)", -1);
        edges.due("a row again", TWO + "tape(0,-1,0)", "tape(0,2,3)", 1, "read(0,0)", 0, "read(0,2)", 0);
    }

    private void item() {
        edges.of(36);
        edges.due("NONE", TWO, "item(-1,0,9)", -1, "item(6,0,9)", -1, "item(MIN,0,9)", -1, "item(MAX,0,9)", -1);
        edges.due("NOTHING", TWO, "item(2,0,9)", -11, "item(5,0,9)", -11);
        edges.due("PLACE", TWO, "item(0,-1,9)", -13, "item(0,3,9)", -13, "item(1,4,9)", -13, "item(0,MIN,9)", -13, "item(0,MAX,9)", -13);
        edges.due("the first and the last place", TWO, "item(0,0,9)", 1, "item(0,2,8)", 1, "read(0,0)", 9, "read(0,1)", 2, "read(0,2)", 8);
        edges.due("NOTHING ahead of PLACE", TWO, "item(2,-1,9)", -11, "item(2,60,9)", -11);
        edges.due("NONE ahead of PLACE", TWO, "item(6,-1,9)", -1, "item(-1,60,9)", -1);
        edges.due("PLACE in a row of 0", "tape(0,0,0)", "item(0,0,1)", -13, "item(0,-1,1)", -13);
    }

    private void itemBits() {
        edges.of(36);
        Object[][] bytes = {{"127", 127}, {"128", -128}, {"255", -1}, {"256", 0}, {"-1", -1}, {"-128", -128}, {"-129", 127}, {"LMIN", 0}, {"LMAX", -1}};
        Object[][] shorts = {{"32767", 32767}, {"32768", -32768}, {"65535", -1}, {"65536", 0}, {"-32768", -32768}, {"-32769", 32767}, {"LMIN", 0},
            {"LMAX", -1}};
        Object[][] ints = {{"2147483647", 2147483647}, {"2147483648", Integer.MIN_VALUE}, {"4294967295", -1}, {"4294967296", 0},
            {"-2147483648", Integer.MIN_VALUE}, {"-2147483649", Integer.MAX_VALUE}, {"LMIN", 0}, {"LMAX", -1}};
        Object[][] longs = {{"4294967296", 4294967296L}, {"LMAX", Long.MAX_VALUE}, {"LMIN", NO}, {"-1", -1}, {"0", 0}};
        Object[][] booleans = {{"0", 0}, {"1", 1}, {"2", 1}, {"-1", 1}, {"256", 1}, {"4294967296", 1}, {"LMIN", 1}, {"LMAX", 1}};
        Object[][][] sorts = {bytes, shorts, ints, longs, booleans};
        for (int sort = 0; sort < 5; sort++) {
            for (Object[] row : sorts[sort]) {
                edges.due("its lowest bits, as many as an item has; sort " + sort, "tape(0," + sort + ",3)", "item(0,1," + row[0] + ")", 1,
                        "read(0,1)", row[1], "read(0,0)", 0, "read(0,2)", 0);
            }
        }
        edges.due("booleans: whether v is not 0, and 0 again", "tape(0,4,1)", "item(0,0,7)", 1, "read(0,0)", 1, "item(0,0,0)", 1, "read(0,0)", 0);
    }

    private void read() {
        edges.of(37);
        edges.due("NO: no such TAPE", TWO, "read(-1,0)", NO, "read(6,0)", NO, "read(MIN,0)", NO, "read(MAX,0)", NO);
        edges.due("NO: nothing there", TWO, "read(2,0)", NO, "read(5,0)", NO, "read(2,-1)", NO);
        edges.due("NO: no such place", TWO, "read(0,-1)", NO, "read(0,3)", NO, "read(1,4)", NO, "read(0,MIN)", NO, "read(0,MAX)", NO);
        edges.due("the first and the last", TWO, "read(0,0)", 1, "read(0,2)", 3, "read(1,0)", 5, "read(1,3)", 8);
        edges.due("a row of 0", "tape(0,0,0)", "read(0,0)", NO);
        edges.due("a row of 60", "tape(0,3,60) item(0,59,LMAX)", "read(0,59)", Long.MAX_VALUE, "read(0,60)", NO);
    }

    private void shift() {
        edges.of(38);
        edges.due("NONE: tapes", TWO, "shift(-1,0,0,0,1)", -1, "shift(6,0,0,0,1)", -1, "shift(0,0,-1,0,1)", -1, "shift(0,0,6,0,1)", -1,
                "shift(MIN,0,MAX,0,1)", -1, "shift(0,0,MIN,0,1)", -1);
        edges.due("NOTHING", TWO, "shift(0,0,2,0,1)", -11, "shift(2,0,0,0,1)", -11, "shift(2,0,3,0,1)", -11, "shift(2,0,2,0,0)", -11);
        edges.due("CAST: of unlike sorts", TWO + "tape(2,0,3) tape(3,1,3) tape(4,3,3) tape(5,4,3)", "shift(0,0,2,0,1)", -12,
                "shift(3,0,0,0,1)", -12, "shift(0,0,4,0,1)", -12, "shift(5,0,0,0,1)", -12, "shift(2,0,5,0,0)", -12);
        edges.due("n", TWO, "shift(0,0,1,1,3)", 3, "read(1,0)", 5, "read(1,1)", 1, "read(1,3)", 3, "read(0,0)", 1);
        edges.due("n 0", TWO, "shift(0,0,1,0,0)", 0, "shift(0,3,1,4,0)", 0, "read(1,0)", 5);
        edges.due("n 60", "tape(0,3,60) tape(1,3,60) item(0,0,LMIN) item(0,59,LMAX)", "shift(0,0,1,0,60)", 60, "read(1,0)", NO,
                "read(1,59)", Long.MAX_VALUE, "shift(0,0,1,0,61)", -13);
        edges.due("rows of 0", "tape(0,1,0) tape(5,1,0)", "shift(0,0,5,0,0)", 0, "shift(5,0,5,0,0)", 0, "shift(0,0,5,0,1)", -13,
                "shift(0,1,5,0,0)", -13);
        for (int sort = 0; sort < 5; sort++) {
            edges.due("of like sorts", "tape(0," + sort + ",2) tape(1," + sort + ",2) item(0,0,1)", "shift(0,0,1,1,1)", 1, "read(1,1)", 1,
                    "read(1,0)", 0);
        }
    }

    private void shiftPlaces() {
        edges.of(38);
        edges.due("PLACE: n is below 0", TWO, "shift(0,0,1,0,-1)", -13, "shift(0,1,1,1,-1)", -13, "shift(0,0,1,0,MIN)", -13,
                "shift(0,3,1,4,-1)", -13);
        edges.due("PLACE: i is below 0", TWO, "shift(0,-1,1,0,1)", -13, "shift(0,-1,1,0,0)", -13, "shift(0,MIN,1,0,1)", -13);
        edges.due("PLACE: j is below 0", TWO, "shift(0,0,1,-1,1)", -13, "shift(0,0,1,-1,0)", -13, "shift(0,0,1,MIN,1)", -13);
        edges.due("PLACE: beyond the first's end", TWO, "shift(0,0,1,0,4)", -13, "shift(0,1,1,0,3)", -13, "shift(0,3,1,0,1)", -13,
                "shift(0,4,1,0,0)", -13, "shift(0,2,1,0,1)", 1);
        edges.due("PLACE: beyond the other's end", TWO, "shift(1,0,0,0,4)", -13, "shift(1,0,0,1,3)", -13, "shift(1,0,0,3,1)", -13,
                "shift(1,0,0,4,0)", -13, "shift(1,0,0,2,1)", 1);
        edges.due("PLACE: a sum that wraps around", TWO, "shift(0,MAX,1,0,1)", -13, "shift(0,1,1,0,MAX)", -13, "shift(0,MAX,1,MAX,MAX)", -13,
                "shift(0,0,1,MAX,1)", -13, "shift(0,MIN,1,0,MIN)", -13, "shift(0,0,1,MIN,MIN)", -13, "shift(0,2147483645,1,0,3)", -13);
        edges.due("just to both ends", TWO, "shift(0,1,1,2,2)", 2, "read(1,2)", 2, "read(1,3)", 3, "read(1,1)", 6);
    }

    private void shiftOrder() {
        edges.of(38);
        edges.due("NONE ahead of NOTHING", TWO, "shift(2,0,6,0,1)", -1, "shift(-1,0,2,0,1)", -1);
        edges.due("NOTHING ahead of CAST", TWO + "tape(3,0,3)", "shift(3,0,2,0,1)", -11, "shift(2,0,3,0,1)", -11);
        edges.due("NOTHING ahead of PLACE", TWO, "shift(0,-1,2,0,1)", -11, "shift(2,0,0,9,-1)", -11);
        edges.due("CAST ahead of PLACE", TWO + "tape(3,0,3)", "shift(0,-1,3,0,1)", -12, "shift(3,0,0,0,99)", -12, "shift(3,0,0,0,-1)", -12);
    }

    private void shiftOverlaps() {
        edges.of(38);
        edges.due("the same, as they all were before: up", TWO, "shift(1,0,1,1,3)", 3, "read(1,0)", 5, "read(1,1)", 5, "read(1,2)", 6,
                "read(1,3)", 7);
        edges.due("the same, as they all were before: down", TWO, "shift(1,1,1,0,3)", 3, "read(1,0)", 6, "read(1,1)", 7, "read(1,2)", 8,
                "read(1,3)", 8);
        edges.due("the same, in place", TWO, "shift(1,1,1,1,3)", 3, "read(1,0)", 5, "read(1,1)", 6, "read(1,3)", 8);
        edges.due("the same, beyond its end", TWO, "shift(1,0,1,2,3)", -13, "shift(1,2,1,0,3)", -13, "read(1,2)", 7);
    }
}
