import java.util.ArrayList;
import java.util.List;

/** Wild arguments in many states: no call throws, and what is refused changes nothing. */
public final class ExtremesTest {
    private static final int[] WILD = {
        Integer.MIN_VALUE, Integer.MIN_VALUE + 1, -65536, -1000, -100, -14, -5, -2, -1, 0, 1, 2, 3, 4, 5, 6, 7, 8, 11, 12, 13,
        15, 16, 17, 19, 20, 29, 30, 31, 32, 38, 39, 40, 41, 59, 60, 61, 63, 64, 98, 99, 100, 101, 119, 120, 121, 511, 998,
        999, 1000, 1001, 32767, 32768, 65535, 65536, Integer.MAX_VALUE - 1, Integer.MAX_VALUE,
    };
    private static final String[] NAMES = {
        "pass", "holder", "share", "price", "sale", "of", "held", "feed", "charter", "force", "why", "votes", "carry", "ruler",
        "step", "all", "proof", "worth", "hollow", "pivot", "buy", "sold", "free", "may", "motion", "alike", "found", "ring",
        "breaks", "act", "trace", "taken", "count", "tape", "item", "read", "shift",
    };
    private static final int[] ARGUMENTS = {
        1, 2, 4, 2, 2, 2, 3, 2, 2, 4, 3, 3, 3, 2, 2, 3, 3, 3, 1, 2, 3, 1, 1, 4, 2, 3, 1, 1, 0, 3, 1, 2, 1, 3, 3, 2, 5,
    };
    private static final int CALLS_MOST = 512;

    private final Check check = new Check("extremes");
    private final Dice dice = new Dice(77);

    private ExtremesTest() {
    }

    public static void main(String[] args) {
        ExtremesTest t = new ExtremesTest();
        for (int round = 0; round < 600; round++) {
            t.wild(round);
        }
        t.fullest();
        t.check.end();
    }

    private Call wildCall() {
        int which = dice.below(NAMES.length);
        long[] a = new long[ARGUMENTS[which]];
        for (int i = 0; i < a.length; i++) {
            a[i] = dice.one(3) ? dice.below(8) : WILD[dice.below(WILD.length)];
        }
        if (NAMES[which].equals("item")) {
            a[2] <<= dice.below(40);
        }
        return new Call(NAMES[which], a);
    }

    /** Calls that make a world of any size; many of them are refused. */
    private List<Call> anyWorld() {
        StringBuilder s = new StringBuilder();
        int holders = dice.below(17);
        for (int h = 0; h < holders; h++) {
            s.append("holder(" + (dice.one(2) ? 1 : dice.below(6)) + "," + dice.below(4) + ") ");
        }
        List<Call> calls = Call.read(s.toString());
        TextMaker texts = new TextMaker(dice);
        for (int k = 0; k < 40 && holders > 0; k++) {
            calls.add(new Call("share", dice.below(holders), dice.below(holders), dice.below(5), dice.below(100)));
            calls.add(new Call("sale", dice.below(40), dice.below(holders)));
            calls.add(new Call("price", dice.below(40), dice.below(10)));
            if (dice.one(4)) {
                calls.addAll(Call.feeds(texts.text()));
                calls.add(new Call("charter", dice.below(holders), dice.below(30)));
                calls.add(new Call("pass", dice.below(9)));
                calls.add(new Call("tape", dice.below(6), dice.below(5), dice.below(61)));
                calls.add(new Call("motion", dice.below(1 << holders), 0));
            }
        }
        return calls.size() > CALLS_MOST / 2 ? calls.subList(0, CALLS_MOST / 2) : calls;
    }

    /** The twin gets none of the calls that are refused, and none that only asks. */
    private void wild(int round) {
        List<Call> made = new ArrayList<>(anyWorld());
        while (made.size() < CALLS_MOST * 3 / 4) {
            made.add(wildCall());
        }
        WhoRules x = new WhoRules();
        List<Call> kept = new ArrayList<>();
        for (Call call : made) {
            long answer = answer(x, call);
            if (call.changes() && !call.isRefused(answer)) {
                kept.add(call);
            }
        }
        Edges.compare(check, "round " + round + ", ", made, kept);
    }

    private long answer(WhoRules x, Call call) {
        try {
            return call.on(x);
        } catch (RuntimeException e) {
            check.text(call.toString(), "threw " + e, "an answer");
            return 0;
        }
    }

    /** Nearly everything at its limit: the sums that are greatest and the searches that are longest still answer. */
    private static WhoRules fullWorld() {
        StringBuilder s = new StringBuilder("7*holder(1,0) 9*holder(2,0) ");
        for (int k = 0; k < 40; k++) {
            s.append("share(" + k % 7 + "," + (k % 2 == 0 ? (k + 1) % 7 : 7 + k % 9) + "," + (k < 35 ? 2 : 1) + ",99) ");
            s.append("price(" + k + ",999) ");
        }
        StringBuilder text = new StringBuilder("old 1 999;most 999;need 998 999;sleep !!!!k=9");
        while (text.length() < 96) {
            text.append("|h=9");
        }
        for (int c = 0; c < 7; c++) {
            s.append("'" + text + "' charter(" + c + ",0) ");
        }
        s.append("pass(9) ");
        for (int k = 0; k < 120; k++) {
            s.append("sale(" + k % 40 + "," + (k * 3 + k / 40) % 16 + ") ");
        }
        WhoRules x = new WhoRules();
        for (Call call : Call.read(s.toString())) {
            call.on(x);
        }
        return x;
    }

    private void fullest() {
        for (int f = 0; f < 7; f++) {
            WhoRules x = fullWorld();
            check.due("charters", x.count(5), 7);
            check.due("sales", x.count(4) > 100 ? 1 : 0, 1);
            for (int h = 0; h < 16; h++) {
                check.due("votes at most", x.votes(f, h, 999) <= 999 ? 1 : 0, 1);
                check.due("turns", x.pivot(f, h) >= 0 ? 1 : 0, 1);
                check.due("buys", x.buy(h, f, 1) <= 8 * 999 ? 1 : 0, 1);
                check.due("a fraction", h < 7 || x.worth(f, h, 0) <= x.worth(f, h, 1) ? 1 : 0, 1);
            }
        }
    }
}
