import java.util.ArrayList;
import java.util.List;

/**
 * Rows of edges: words of the document that name a boundary, a world, calls in it and the answers
 * that are due. After each row a twin that was never asked anything, and to which no refused call was
 * made, must answer everything alike: what is refused changes nothing, nor does asking.
 */
final class Edges {
    /** What the document promises of one object, and what of it is left for asking the twins. */
    private static final int CALLS_MOST = 512, LEFT = 50;

    private final Check check;
    private int promise;

    Edges(String name) {
        check = new Check(name);
    }

    /** The promise of which the next rows are. */
    void of(int number) {
        promise = number;
    }

    void end() {
        check.end();
    }

    /** Behind the world: each call as a text, and the number that it must answer. */
    void due(String words, String world, Object... callsAndAnswers) {
        String label = "promise " + promise + ", " + words + ": ";
        List<Call> made = new ArrayList<>();
        List<Call> kept = new ArrayList<>();
        WhoRules x = new WhoRules();
        for (Call call : Call.read(world)) {
            made.add(call);
            kept.add(call);
            if (call.isRefused(call.on(x))) {
                check.text(label + "the world's " + call, "refused", "taken");
            }
        }
        for (int k = 0; k + 1 < callsAndAnswers.length; k += 2) {
            Call call = Call.read((String) callsAndAnswers[k]).get(0);
            long answer = call.on(x);
            made.add(call);
            if (call.changes() && !call.isRefused(answer)) {
                kept.add(call);
            }
            check.due(label + call + " behind " + world, answer, ((Number) callsAndAnswers[k + 1]).longValue());
        }
        check.due(label + "calls of one object", made.size() <= CALLS_MOST - LEFT ? 1 : 0, 1);
        compare(check, label, made, kept);
    }

    private static WhoRules after(List<Call> calls) {
        WhoRules x = new WhoRules();
        for (Call call : calls) {
            call.on(x);
        }
        return x;
    }

    /** One object behind all calls that were made, and its twin behind those that were kept: all answers are alike. */
    static void compare(Check check, String label, List<Call> made, List<Call> kept) {
        int room = Math.max(LEFT, CALLS_MOST - made.size());
        for (List<Call> some : asks(after(kept))) {
            for (int from = 0; from < some.size(); from += room) {
                WhoRules x = after(made);
                WhoRules twin = after(kept);
                for (Call call : some.subList(from, Math.min(some.size(), from + room))) {
                    check.due(label + call + ", as of a twin without what was refused", call.on(x), call.on(twin));
                }
            }
        }
    }

    /** What is asked of both: each list begins with the objects as they stand. */
    private static List<List<Call>> asks(WhoRules x) {
        int today = x.count(0);
        int holders = x.count(1);
        int shares = x.count(3);
        List<Call> plain = new ArrayList<>();
        for (int what = 0; what <= 9; what++) {
            plain.add(new Call("count", what));
        }
        if (x.count(7) > 0) {
            askMotions(holders, plain);
        }
        askShares(shares, today, plain);
        for (int tape = 0; tape < 6; tape++) {
            askTape(tape, x.shift(tape, 0, tape, 0, 0) == 0 ? 61 : 1, plain);
        }
        List<List<Call>> all = new ArrayList<>();
        all.add(plain);
        // The others change something, so each is a list of its own.
        all.add(Call.read("holder(0,0) motion(0,0) feed(120,1) pass(1) count(6)"));
        all.add(Call.read("holder(1,0) holder(2,0)"));
        for (int h = 0; h < holders; h++) {
            plain.add(new Call("taken", h, 0));
            if (x.taken(h, 1) == 1) {
                askFirm(h, holders, today, plain);
                all.add(Call.read("share(F,0,1,1) charter(F,0) count(6) why(F,0,0) why(F,1,0) why(F,2,0) why(F,3,0) why(F,4,0)"
                        .replace("F", "" + h)));
            }
        }
        return all;
    }

    private static void askMotions(int holders, List<Call> asks) {
        for (int a = 0; a < holders; a++) {
            for (int b = a + 1; b < holders; b++) {
                asks.add(new Call("alike", a, b, 0));
                asks.add(new Call("alike", a, b, 1));
            }
        }
        asks.add(new Call("found", 1));
    }

    private static void askFirm(int firm, int holders, int today, List<Call> asks) {
        for (int word = 0; word < 5; word++) {
            asks.add(new Call("why", firm, word, today));
            asks.add(new Call("force", firm, word, today, 0));
            asks.add(new Call("force", firm, word, 999, 0));
        }
        asks.add(new Call("ruler", firm, today));
        asks.add(new Call("hollow", firm));
        for (int h = 0; h < holders; h++) {
            asks.add(new Call("votes", firm, h, today));
            asks.add(new Call("worth", firm, h, 0));
        }
    }

    private static void askShares(int shares, int today, List<Call> asks) {
        for (int s = 0; s <= shares; s++) {
            for (int what = 0; what < 4; what++) {
                asks.add(new Call("of", s, what));
            }
            for (int day : new int[] {0, today, 999}) {
                asks.add(new Call("held", s, day, 0));
                asks.add(new Call("held", s, day, 1));
            }
        }
        asks.add(new Call("step", today, -1));
        asks.add(new Call("ring", -1));
        asks.add(new Call("breaks"));
    }

    private static void askTape(int tape, int items, List<Call> asks) {
        for (int i = 0; i < items; i++) {
            asks.add(new Call("read", tape, i));
        }
        asks.add(new Call("item", tape, 60, 1));
        for (int other = 0; other < 6; other++) {
            asks.add(new Call("shift", tape, 0, other, 0, 0));
        }
        for (int i = 0; i < 4; i++) {
            asks.add(new Call("trace", i));
        }
    }
}
