import java.util.ArrayList;
import java.util.List;
import java.util.Set;

/** A call of the face, told as text. */
record Call(String name, long... a) {
    private static final Set<String> CHANGING = Set.of("pass", "holder", "share", "price", "sale", "feed", "charter",
            "motion", "act", "tape", "item", "shift");

    /**
     * Reads calls that stand behind one another: name(1, 2), 'bytes for THE TEXT', 3*call, 3*{calls}.
     * MIN and MAX are those of int, LMIN and LMAX those of long; 0x tells the bits of an int.
     */
    static List<Call> read(String script) {
        List<Call> calls = new ArrayList<>();
        int at = 0;
        while (at < script.length()) {
            if (script.charAt(at) == ' ') {
                at++;
                continue;
            }
            int star = at;
            while (Character.isDigit(script.charAt(star))) {
                star++;
            }
            int times = 1;
            if (star > at) {
                times = Integer.parseInt(script.substring(at, star));
                at = star + 1;
            }
            int end = endOf(script, at);
            List<Call> some = readOne(script.substring(at, end));
            for (int k = 0; k < times; k++) {
                calls.addAll(some);
            }
            at = end;
        }
        return calls;
    }

    private static int endOf(String script, int at) {
        char opens = script.charAt(at);
        char closes = opens == '\'' ? '\'' : opens == '{' ? '}' : ')';
        return script.indexOf(closes, at + 1) + 1;
    }

    private static List<Call> readOne(String told) {
        String inner = told.substring(told.charAt(0) == '\'' || told.charAt(0) == '{' ? 1 : 0, told.length() - 1);
        if (told.charAt(0) == '\'') {
            return feeds(inner);
        }
        if (told.charAt(0) == '{') {
            return read(inner);
        }
        int open = inner.indexOf('(');
        String list = inner.substring(open + 1).trim();
        String[] words = list.isEmpty() ? new String[0] : list.split(",");
        long[] a = new long[words.length];
        for (int i = 0; i < a.length; i++) {
            a[i] = number(words[i].trim());
        }
        return List.of(new Call(inner.substring(0, open), a));
    }

    private static long number(String word) {
        return switch (word) {
            case "MIN" -> Integer.MIN_VALUE;
            case "MAX" -> Integer.MAX_VALUE;
            case "LMIN" -> Long.MIN_VALUE;
            case "LMAX" -> Long.MAX_VALUE;
            default -> word.startsWith("0x") ? Integer.parseUnsignedInt(word.substring(2), 16) : Long.parseLong(word);
        };
    }

    static List<Call> feeds(String text) {
        List<Call> calls = new ArrayList<>();
        for (int i = 0; i < text.length(); i += 4) {
            int n = Math.min(4, text.length() - i);
            int bytes = 0;
            for (int k = 0; k < n; k++) {
                bytes = bytes << 8 | text.charAt(i + k);
            }
            calls.add(new Call("feed", bytes, n));
        }
        return calls;
    }

    boolean changes() {
        return CHANGING.contains(name);
    }

    /** A charter with a fault is no refusal that changes nothing: THE TEXT is empty then. */
    boolean isRefused(long answer) {
        boolean charter = name.equals("charter");
        return answer < 0 && answer >= WhoRules.FULL && !name.equals("act")
                || answer <= -11 && answer >= -14 && !charter && !name.equals("act");
    }

    long on(WhoRules x) {
        return switch (name) {
            case "pass" -> x.pass(i(0));
            case "holder" -> x.holder(i(0), i(1));
            case "share" -> x.share(i(0), i(1), i(2), i(3));
            case "price" -> x.price(i(0), i(1));
            case "sale" -> x.sale(i(0), i(1));
            case "of" -> x.of(i(0), i(1));
            case "held" -> x.held(i(0), i(1), i(2));
            case "feed" -> x.feed(i(0), i(1));
            case "charter" -> x.charter(i(0), i(1));
            case "force" -> x.force(i(0), i(1), i(2), i(3));
            case "why" -> x.why(i(0), i(1), i(2));
            case "votes" -> x.votes(i(0), i(1), i(2));
            case "carry" -> x.carry(i(0), i(1), i(2));
            case "ruler" -> x.ruler(i(0), i(1));
            case "step" -> x.step(i(0), i(1));
            case "all" -> x.all(i(0), i(1), i(2));
            case "proof" -> x.proof(i(0), i(1), i(2));
            case "worth" -> x.worth(i(0), i(1), i(2));
            case "hollow" -> x.hollow(i(0));
            case "pivot" -> x.pivot(i(0), i(1));
            default -> onRest(x);
        };
    }

    private long onRest(WhoRules x) {
        return switch (name) {
            case "buy" -> x.buy(i(0), i(1), i(2));
            case "sold" -> x.sold(i(0));
            case "free" -> x.free(i(0));
            case "may" -> x.may(i(0), i(1), i(2), i(3));
            case "motion" -> x.motion(i(0), i(1));
            case "alike" -> x.alike(i(0), i(1), i(2));
            case "found" -> x.found(i(0));
            case "ring" -> x.ring(i(0));
            case "breaks" -> x.breaks();
            case "act" -> x.act(i(0), i(1), i(2));
            case "trace" -> x.trace(i(0));
            case "taken" -> x.taken(i(0), i(1));
            case "count" -> x.count(i(0));
            case "tape" -> x.tape(i(0), i(1), i(2));
            case "item" -> x.item(i(0), i(1), a[2]);
            case "read" -> x.read(i(0), i(1));
            case "shift" -> x.shift(i(0), i(1), i(2), i(3), i(4));
            default -> throw new IllegalArgumentException("no such call: " + name);
        };
    }

    private int i(int k) {
        return Math.toIntExact(a[k]);
    }

    @Override
    public String toString() {
        StringBuilder s = new StringBuilder(name).append("(");
        for (int k = 0; k < a.length; k++) {
            s.append(k == 0 ? "" : ", ").append(a[k]);
        }
        return s.append(")").toString();
    }
}
