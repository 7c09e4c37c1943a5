import java.util.ArrayDeque;
import java.util.Deque;

/** The program and the model side by side: each call goes to both, and both must answer the same. */
final class Pair {
    private static final int TOLD = 30;

    private final WhoRules x = new WhoRules();
    private final Model m = new Model();
    private final Check check;
    private final String run;
    private final Deque<String> latest = new ArrayDeque<>();
    private final java.util.Map<String, Integer> kinds;
    private boolean torn;
    private int calls;

    Pair(Check check, String run, java.util.Map<String, Integer> kinds) {
        this.check = check;
        this.run = run;
        this.kinds = kinds;
    }

    boolean differs() {
        return torn;
    }

    int calls() {
        return calls;
    }

    private long both(String call, long got, long want) {
        calls++;
        latest.addLast(call + " -> " + got);
        if (latest.size() > TOLD) {
            latest.removeFirst();
        }
        String name = call.substring(0, call.indexOf('('));
        kinds.merge(name + " " + (want > 30 || want < -99 && want != Long.MIN_VALUE || name.equals("act") ? "more" : want), 1, Integer::sum);
        check.due(run + " " + call, got, want);
        if (got != want && !torn) {
            torn = true;
            System.out.println(String.join("\n  ", latest));
        }
        return want;
    }

    int pass(int n) {
        return (int) both("pass(" + n + ")", x.pass(n), m.pass(n));
    }

    int holder(int a, int b) {
        return (int) both("holder(" + a + ", " + b + ")", x.holder(a, b), m.holder(a, b));
    }

    int share(int a, int b, int c, int d) {
        return (int) both(call("share", a, b, c, d), x.share(a, b, c, d), m.share(a, b, c, d));
    }

    int price(int a, int b) {
        return (int) both(call("price", a, b), x.price(a, b), m.price(a, b));
    }

    int sale(int a, int b) {
        return (int) both(call("sale", a, b), x.sale(a, b), m.sale(a, b));
    }

    int of(int a, int b) {
        return (int) both(call("of", a, b), x.of(a, b), m.of(a, b));
    }

    int held(int a, int b, int c) {
        return (int) both(call("held", a, b, c), x.held(a, b, c), m.held(a, b, c));
    }

    int feed(int a, int b) {
        return (int) both(call("feed", a, b), x.feed(a, b), m.feed(a, b));
    }

    int charter(int a, int b) {
        return (int) both(call("charter", a, b), x.charter(a, b), m.charter(a, b));
    }

    int force(int a, int b, int c, int d) {
        return (int) both(call("force", a, b, c, d), x.force(a, b, c, d), m.force(a, b, c, d));
    }

    int why(int a, int b, int c) {
        return (int) both(call("why", a, b, c), x.why(a, b, c), m.why(a, b, c));
    }

    int votes(int a, int b, int c) {
        return (int) both(call("votes", a, b, c), x.votes(a, b, c), m.votes(a, b, c));
    }

    int carry(int a, int b, int c) {
        return (int) both(call("carry", a, b, c), x.carry(a, b, c), m.carry(a, b, c));
    }

    int ruler(int a, int b) {
        return (int) both(call("ruler", a, b), x.ruler(a, b), m.ruler(a, b));
    }

    int step(int a, int b) {
        return (int) both(call("step", a, b), x.step(a, b), m.step(a, b));
    }

    int all(int a, int b, int c) {
        return (int) both(call("all", a, b, c), x.all(a, b, c), m.all(a, b, c));
    }

    int proof(int a, int b, int c) {
        return (int) both(call("proof", a, b, c), x.proof(a, b, c), m.proof(a, b, c));
    }

    long worth(int a, int b, int c) {
        return both(call("worth", a, b, c), x.worth(a, b, c), m.worth(a, b, c));
    }

    int hollow(int a) {
        return (int) both(call("hollow", a), x.hollow(a), m.hollow(a));
    }

    int pivot(int a, int b) {
        return (int) both(call("pivot", a, b), x.pivot(a, b), m.pivot(a, b));
    }

    long buy(int a, int b, int c) {
        return both(call("buy", a, b, c), x.buy(a, b, c), m.buy(a, b, c));
    }

    int sold(int a) {
        return (int) both(call("sold", a), x.sold(a), m.sold(a));
    }

    long free(int a) {
        return both(call("free", a), x.free(a), m.free(a));
    }

    int may(int a, int b, int c, int d) {
        return (int) both(call("may", a, b, c, d), x.may(a, b, c, d), m.may(a, b, c, d));
    }

    int motion(int a, int b) {
        return (int) both(call("motion", a, b), x.motion(a, b), m.motion(a, b));
    }

    int alike(int a, int b, int c) {
        return (int) both(call("alike", a, b, c), x.alike(a, b, c), m.alike(a, b, c));
    }

    int found(int a) {
        return (int) both(call("found", a), x.found(a), m.found(a));
    }

    int ring(int a) {
        return (int) both(call("ring", a), x.ring(a), m.ring(a));
    }

    long breaks() {
        return both(call("breaks"), x.breaks(), m.breaks());
    }

    int act(int a, int b, int c) {
        return (int) both(call("act", a, b, c), x.act(a, b, c), m.act(a, b, c));
    }

    int trace(int a) {
        return (int) both(call("trace", a), x.trace(a), m.trace(a));
    }

    int taken(int a, int b) {
        return (int) both(call("taken", a, b), x.taken(a, b), m.taken(a, b));
    }

    int count(int a) {
        return (int) both(call("count", a), x.count(a), m.count(a));
    }

    int tape(int a, int b, int c) {
        return (int) both(call("tape", a, b, c), x.tape(a, b, c), m.tape(a, b, c));
    }

    int item(int a, int b, long c) {
        return (int) both(call("item", a, b, c), x.item(a, b, c), m.item(a, b, c));
    }

    long read(int a, int b) {
        return both(call("read", a, b), x.read(a, b), m.read(a, b));
    }

    int shift(int a, int b, int c, int d, int e) {
        return (int) both(call("shift", a, b, c, d, e), x.shift(a, b, c, d, e), m.shift(a, b, c, d, e));
    }

    private static String call(String name, long... arguments) {
        StringBuilder s = new StringBuilder(name).append("(");
        for (int i = 0; i < arguments.length; i++) {
            s.append(i == 0 ? "" : ", ").append(arguments[i]);
        }
        return s.append(")").toString();
    }
}
