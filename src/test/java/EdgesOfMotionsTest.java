/** The edges that promises 26 to 30 name, sentence by sentence: motions, who is as one, rings and what breaks them. */
public final class EdgesOfMotionsTest {
    private static final String SEVEN = "7*holder(1,0) ";

    private final Edges edges = new Edges("edges of motions");

    public static void main(String[] args) {
        EdgesOfMotionsTest t = new EdgesOfMotionsTest();
        t.motion();
        t.motionFull();
        t.alike();
        t.found();
        t.foundSets();
        t.ring();
        t.ringLeast();
        t.breaks();
        t.breaksTwelve();
        t.edges.end();
    }

    private void motion() {
        edges.of(26);
        edges.due("its number, as they come", "3*holder(2,0)", "motion(1,2)", 0, "motion(7,0)", 1, "motion(0,7)", 2, "count(7)", 3);
        edges.due("nobody said anything", "3*holder(2,0)", "motion(0,0)", 0, "alike(0,1,0)", 0, "alike(0,1,1)", 0);
        edges.due("no HOLDERS", "", "motion(0,0)", 0, "motion(1,0)", -2, "motion(0,1)", -2, "count(7)", 1);
        edges.due("BAD: bits of none such, yes", "3*holder(2,0)", "motion(8,0)", -2, "motion(15,0)", -2, "motion(-1,0)", -2, "motion(MIN,0)", -2,
                "motion(MAX,0)", -2, "count(7)", 0, "motion(4,0)", 0);
        edges.due("BAD: bits of none such, no", "3*holder(2,0)", "motion(0,8)", -2, "motion(0,15)", -2, "motion(0,-1)", -2, "motion(0,MIN)", -2,
                "motion(0,MAX)", -2, "count(7)", 0, "motion(0,4)", 0);
        edges.due("BAD: one in both", "3*holder(2,0)", "motion(1,1)", -2, "motion(3,6)", -2, "motion(7,7)", -2, "count(7)", 0, "motion(3,4)", 0);
        edges.due("HOLDERS of each KIND", "holder(0,0) holder(1,0) holder(2,0) holder(3,0) holder(4,0) holder(5,0)", "motion(21,42)", 0,
                "alike(0,4,0)", 1, "alike(1,5,0)", 1, "alike(4,5,1)", 1);
        edges.due("all 16", "16*holder(2,0)", "motion(65535,0)", 0, "motion(0,65535)", 1, "motion(32768,32767)", 2, "motion(65536,0)", -2,
                "motion(0,65536)", -2, "alike(15,0,0)", 2, "alike(15,0,1)", 1);
    }

    private void motionFull() {
        edges.of(26);
        edges.due("MOTIONS 0 .. 29, the last", "3*holder(2,0) 29*motion(1,2)", "motion(3,0)", 29, "count(7)", 30, "alike(0,1,0)", 1,
                "alike(0,1,1)", 29);
        edges.due("FULL", "3*holder(2,0) 30*motion(1,2)", "motion(3,0)", -4, "motion(0,0)", -4, "count(7)", 30, "alike(0,1,1)", 30,
                "alike(0,1,0)", 0);
        edges.due("BAD ahead of FULL", "3*holder(2,0) 30*motion(1,2)", "motion(8,0)", -2, "motion(1,1)", -2, "motion(0,-1)", -2);
    }

    private void alike() {
        edges.of(27);
        String said = "3*holder(2,0) motion(3,4) motion(4,3) motion(1,2) motion(1,4) ";
        edges.due("both said something, and the same", said, "alike(0,1,0)", 2, "alike(1,0,0)", 2, "alike(0,2,0)", 0);
        edges.due("both said something, and not the same", said, "alike(0,1,1)", 1, "alike(1,0,1)", 1, "alike(0,2,1)", 3, "alike(1,2,1)", 2);
        edges.due("one said nothing", "3*holder(2,0) motion(1,0) motion(0,1)", "alike(0,1,0)", 0, "alike(0,1,1)", 0);
        edges.due("both said nothing", "3*holder(2,0) motion(4,0) motion(0,4)", "alike(0,1,0)", 0, "alike(0,1,1)", 0);
        edges.due("no MOTIONS", "3*holder(2,0)", "alike(0,1,0)", 0, "alike(0,1,1)", 0);
        edges.due("30 MOTIONS", "16*holder(2,0) 15*{motion(32769,0) motion(0,32769)}", "alike(0,15,0)", 30, "alike(0,15,1)", 0);
        edges.due("30 MOTIONS, apart", "16*holder(2,0) 15*{motion(32768,1) motion(1,32768)}", "alike(0,15,0)", 0, "alike(15,0,1)", 30);
        edges.due("NONE: a", said, "alike(-1,0,0)", -1, "alike(3,0,0)", -1, "alike(MIN,0,0)", -1, "alike(MAX,0,1)", -1);
        edges.due("NONE: b", said, "alike(0,-1,0)", -1, "alike(0,3,0)", -1, "alike(0,MIN,0)", -1, "alike(0,MAX,1)", -1);
        edges.due("NONE: what", said, "alike(0,1,-1)", -1, "alike(0,1,2)", -1, "alike(0,1,MIN)", -1, "alike(0,1,MAX)", -1);
        edges.due("BAD: one HOLDER", said, "alike(0,0,0)", -2, "alike(2,2,1)", -2);
        edges.due("NONE ahead of BAD", said, "alike(3,3,0)", -1, "alike(-1,-1,0)", -1, "alike(0,0,2)", -1, "alike(0,0,-1)", -1);
    }

    private void found() {
        edges.of(28);
        edges.due("BAD", "2*holder(2,0) motion(3,0)", "found(0)", -2, "found(31)", -2, "found(-1)", -2, "found(MIN)", -2, "found(MAX)", -2);
        edges.due("n 1 .. 30, the first", "2*holder(2,0) motion(3,0)", "found(1)", 1, "found(2)", 0);
        edges.due("n 1 .. 30, the last", "2*holder(2,0) 30*motion(3,0)", "found(30)", 1, "found(31)", -2);
        edges.due("n 1 .. 30, the last, once too few", "2*holder(2,0) 29*motion(3,0) motion(1,0)", "found(29)", 1, "found(30)", 0);
        edges.due("no HOLDERS, no MOTIONS", "", "found(1)", 0, "found(30)", 0);
        edges.due("no MOTIONS", "16*holder(2,0)", "found(1)", 0);
        edges.due("ALIKE in n or more", "2*holder(2,0) motion(3,0) motion(0,3) motion(1,0)", "found(1)", 1, "found(2)", 1, "found(3)", 0);
        edges.due("APART in none", "2*holder(2,0) 5*motion(3,0)", "found(1)", 1, "motion(1,2)", 5, "found(1)", 0);
        edges.due("two PERSONS (KIN, too)", "holder(2,0) holder(3,0) holder(3,1) motion(7,0)", "found(1)", 1);
        edges.due("KIN that are not the least", "4*holder(3,0) motion(12,3)", "found(1)", 2);
        edges.due("no FIRM, no FUND, no CLUB, no HOLDER", "holder(0,0) holder(1,0) holder(4,0) holder(5,0) holder(2,0) motion(31,0)",
                "found(1)", 0);
    }

    private void foundSets() {
        edges.of(28);
        edges.due("sets of two or more: eight", "16*holder(2,0) motion(3,12) motion(48,192) motion(768,3072) motion(12288,49152)", "found(1)", 8);
        edges.due("sets of two or more: one of all", "16*holder(2,0) motion(65535,0)", "found(1)", 1);
        edges.due("sets of two or more: not one alone", "3*holder(2,0) motion(1,2) motion(4,0)", "found(1)", 0);
        edges.due("and through others", "3*holder(2,0) motion(3,0) motion(6,0) motion(1,4)", "alike(0,2,1)", 1, "found(1)", 1);
        edges.due("and through others: HOLDER 0", "3*holder(2,0) motion(3,0) motion(5,0) motion(2,4)", "found(1)", 1);
        edges.due("and through others: the last", "16*holder(2,0) motion(32769,0) motion(49152,0) motion(1,16384)", "found(1)", 1);
        edges.due("and through others: a chain of 16", "16*holder(2,0) motion(3,0) motion(6,0) motion(12,0) motion(24,0) motion(48,0) "
                + "motion(96,0) motion(192,0) motion(384,0) motion(768,0) motion(1536,0) motion(3072,0) motion(6144,0) motion(12288,0) "
                + "motion(24576,0) motion(49152,0)", "found(1)", 1, "found(2)", 0);
        edges.due("and through others: a chain that runs to and fro", "6*holder(2,0) motion(33,0) motion(34,0) motion(18,0) motion(20,0) "
                + "motion(12,0)", "found(1)", 1);
        edges.due("not through one that is no PERSON", "holder(2,0) holder(1,0) holder(2,0) motion(3,0) motion(6,0)", "found(1)", 0);
        edges.due("through others in n or more", "3*holder(2,0) motion(3,0) motion(3,0) motion(6,0)", "found(1)", 1, "found(2)", 1,
                "found(3)", 0);
    }

    private void ring() {
        edges.of(29);
        String three = "4*holder(1,0) holder(2,0) share(0,2,1,0) share(2,1,1,0) share(1,0,1,0) ";
        edges.due("how many (i -1), its i-th FIRM", three, "ring(-1)", 3, "ring(0)", 0, "ring(1)", 1, "ring(2)", 2);
        edges.due("NONE: i", three, "ring(3)", -1, "ring(-2)", -1, "ring(7)", -1, "ring(MIN)", -1, "ring(MAX)", -1);
        edges.due("0: none", "7*holder(1,0) holder(2,0)", "ring(-1)", 0, "ring(0)", -1, "ring(-2)", -1, "ring(6)", -1);
        edges.due("0: none, a chain of seven", SEVEN + "share(0,1,1,0) share(1,2,1,0) share(2,3,1,0) share(3,4,1,0) share(4,5,1,0) "
                + "share(5,6,1,0)", "ring(-1)", 0, "ring(0)", -1);
        edges.due("all seven", SEVEN + "share(0,1,1,0) share(1,2,1,0) share(2,3,1,0) share(3,4,1,0) share(4,5,1,0) share(5,6,1,0) "
                + "share(6,0,1,0)", "ring(-1)", 7, "ring(0)", 0, "ring(1)", 6, "ring(6)", 1, "ring(7)", -1);
        edges.due("one alone: in itself", SEVEN + "share(6,6,1,0)", "ring(-1)", 1, "ring(0)", 6, "ring(1)", -1);
        edges.due("of 1 PART or more", SEVEN + "share(6,6,0,99)", "ring(-1)", 0);
        edges.due("has SHARES in the next one", three, "ring(1)", 1);
        edges.due("TODAY", three + "pass(5) sale(1,4)", "ring(-1)", 0, "sale(1,1)", 2, "ring(-1)", 3);
        edges.due("TODAY: asked again", three, "ring(-1)", 3, "sale(1,4)", 1, "ring(-1)", 0, "ring(0)", -1, "breaks()", 0, "sale(1,2)", 2,
                "ring(-1)", 1, "ring(0)", 2, "ring(1)", -1);
        edges.due("not through one that is no FIRM", "2*holder(1,0) holder(2,0) share(0,1,1,0) share(1,2,1,0)", "ring(-1)", 0);
        edges.due("FIRMS told by their numbers as HOLDERS", "9*holder(2,0) 7*holder(1,0) share(15,9,1,0) share(9,15,1,0)", "ring(-1)", 2,
                "ring(0)", 9, "ring(1)", 15);
    }

    private void ringLeast() {
        edges.of(29);
        edges.due("the fewest", "4*holder(1,0) share(0,1,1,0) share(1,2,1,0) share(2,0,1,0) share(3,2,1,0) share(2,3,1,0)", "ring(-1)", 2,
                "ring(0)", 2, "ring(1)", 3);
        edges.due("the fewest: one alone", "4*holder(1,0) share(0,1,1,0) share(1,0,1,0) share(3,3,1,0)", "ring(-1)", 1, "ring(0)", 3);
        edges.due("told from the least one on", "4*holder(1,0) share(3,1,1,0) share(2,3,1,0) share(1,2,1,0)", "ring(-1)", 3, "ring(0)", 1,
                "ring(1)", 3, "ring(2)", 2);
        edges.due("of several the least row: by the first", "4*holder(1,0) share(2,3,1,0) share(3,2,1,0) share(0,1,1,0) share(1,0,1,0)",
                "ring(0)", 0, "ring(1)", 1);
        edges.due("of several the least row: by the second", "4*holder(1,0) share(0,3,1,0) share(3,0,1,0) share(0,2,1,0) share(2,0,1,0)",
                "ring(0)", 0, "ring(1)", 2);
        edges.due("of several the least row: by the third", "5*holder(1,0) share(1,0,1,0) share(4,1,1,0) share(0,4,1,0) share(3,1,1,0) "
                + "share(0,3,1,0)", "ring(-1)", 3, "ring(0)", 0, "ring(1)", 1, "ring(2)", 3);
        edges.due("of several the least row: both ways round", "3*holder(1,0) share(1,0,1,0) share(2,1,1,0) share(0,2,1,0) "
                + "share(2,2,0,0)", "ring(0)", 0, "ring(1)", 1, "ring(2)", 2);
        edges.due("a longer way begins with less", "6*holder(1,0) share(1,0,1,0) share(2,1,1,0) share(0,2,1,0) share(5,4,1,0) share(4,5,1,0)",
                "ring(-1)", 2, "ring(0)", 4, "ring(1)", 5);
        edges.due("one alone: the least", "4*holder(1,0) share(3,3,1,0) share(2,2,1,0)", "ring(-1)", 1, "ring(0)", 2);
    }

    private void breaks() {
        edges.of(30);
        edges.due("there is no RING: no SHARES", SEVEN, "breaks()", 0);
        edges.due("there is no RING: no FIRMS", "", "breaks()", 0);
        edges.due("there is no RING: a chain of seven", SEVEN + "share(0,1,1,0) share(1,2,1,0) share(2,3,1,0) share(3,4,1,0) share(4,5,1,0) "
                + "share(5,6,1,0)", "breaks()", 0);
        edges.due("a RING of seven: the least as bits", SEVEN + "share(0,1,1,0) share(1,2,1,0) share(2,3,1,0) share(3,4,1,0) share(4,5,1,0) "
                + "share(5,6,1,0) share(6,0,1,0)", "breaks()", 1);
        edges.due("one alone", SEVEN + "share(5,4,1,0) share(3,3,1,0)", "breaks()", 2);
        edges.due("of 1 PART or more", SEVEN + "share(3,3,0,99) share(4,4,1,0)", "breaks()", 2);
        edges.due("that FIRMS have in FIRMS", "2*holder(1,0) holder(2,0) share(0,2,1,0) share(0,1,1,0) share(1,0,1,0)", "breaks()", 2);
        edges.due("TODAY", "2*holder(1,0) holder(2,0) share(0,1,1,0) share(1,0,1,0) pass(5) sale(0,2)", "breaks()", 0, "sale(0,0)", 2,
                "breaks()", 1);
        edges.due("the fewest: one in two RINGS", "3*holder(1,0) share(0,1,1,0) share(0,2,1,0) share(1,0,1,0) share(2,1,1,0)", "breaks()", 4);
        edges.due("of several the least as bits: two SHARES of one", "2*holder(1,0) share(0,1,1,0) share(0,1,1,0) share(1,0,1,0) share(1,0,1,0)",
                "breaks()", 3);
        edges.due("of several the least as bits: two RINGS", "4*holder(1,0) share(0,1,1,0) share(2,3,1,0) share(3,2,1,0) share(1,0,1,0)",
                "breaks()", 3);
        edges.due("as bits of SHARES: bit 39", "2*holder(1,0) 39*share(0,1,0,0) share(0,0,1,0)", "breaks()", 549755813888L);
        edges.due("as bits of SHARES: two beyond 31", "2*holder(1,0) 31*share(0,1,0,0) share(0,0,1,0) share(1,1,1,0)", "breaks()", 6442450944L);
    }

    private void breaksTwelve() {
        edges.of(30);
        edges.due("12 at most by numbers: all twelve", SEVEN + "share(6,6,1,0) share(6,6,1,0) share(6,6,1,0) share(6,6,1,0) share(6,6,1,0) "
                + "share(6,6,1,0) share(6,6,1,0) share(6,6,1,0) share(6,6,1,0) share(6,6,1,0) share(6,6,1,0) share(6,6,1,0)", "breaks()", 4095);
        edges.due("12 at most: the twelfth", SEVEN + "11*share(0,1,1,0) share(2,2,1,0)", "breaks()", 2048);
        edges.due("no others are looked at: the thirteenth", SEVEN + "12*share(0,1,1,0) share(2,2,1,0)", "breaks()", 0, "ring(-1)", 1);
        edges.due("no others are looked at: a RING through the thirteenth", SEVEN + "12*share(0,1,1,0) share(1,0,1,0)", "breaks()", 0,
                "ring(-1)", 2);
        edges.due("0 PARTS are not counted", SEVEN + "11*share(0,1,1,0) share(3,3,0,0) share(2,2,1,0)", "breaks()", 4096);
        edges.due("those of PERSONS are not counted", SEVEN + "holder(2,0) 11*share(0,1,1,0) share(3,7,1,0) share(2,2,1,0)", "breaks()", 4096);
        edges.due("those sold to PERSONS are not counted", SEVEN + "holder(2,0) 12*share(0,1,1,0) share(2,2,1,0) sale(4,7)", "breaks()", 4096);
    }
}
