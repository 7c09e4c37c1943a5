import java.lang.reflect.InvocationTargetException;
import java.lang.reflect.Method;
import java.lang.reflect.Modifier;
import java.util.ArrayList;
import java.util.Comparator;
import java.util.List;

/** Wild arguments in many states: no call throws, and what is refused changes nothing. */
public final class ExtremesTest {
    private static final int[] WILD = {
        Integer.MIN_VALUE, Integer.MIN_VALUE + 1, -65536, -1000, -100, -14, -5, -2, -1, 0, 1, 2, 3, 4, 5, 6, 7, 8, 11, 12, 13,
        15, 16, 17, 19, 20, 29, 30, 31, 32, 38, 39, 40, 41, 59, 60, 61, 63, 64, 98, 99, 100, 101, 119, 120, 121, 511, 998,
        999, 1000, 1001, 32767, 32768, 65535, 65536, Integer.MAX_VALUE - 1, Integer.MAX_VALUE,
    };

    private final Check check = new Check("extremes");
    private final Dice dice = new Dice(77);
    private final List<Method> face = new ArrayList<>();

    private ExtremesTest() {
        for (Method m : WhoRules.class.getDeclaredMethods()) {
            if (Modifier.isPublic(m.getModifiers())) {
                face.add(m);
            }
        }
        face.sort(Comparator.comparing(Method::getName));
    }

    public static void main(String[] args) throws IllegalAccessException {
        ExtremesTest t = new ExtremesTest();
        for (int round = 0; round < 300; round++) {
            t.wild(300);
        }
        for (int round = 0; round < 30; round++) {
            t.refusals(200);
        }
        t.fullest();
        t.check.end();
    }

    private long wildCall(WhoRules x, Method m) throws IllegalAccessException {
        Class<?>[] kinds = m.getParameterTypes();
        Object[] arguments = new Object[kinds.length];
        for (int i = 0; i < kinds.length; i++) {
            int v = dice.one(3) ? dice.below(8) : WILD[dice.below(WILD.length)];
            if (kinds[i] == long.class) {
                arguments[i] = (long) v << dice.below(40);
            } else {
                arguments[i] = v;
            }
        }
        try {
            return ((Number) m.invoke(x, arguments)).longValue();
        } catch (InvocationTargetException e) {
            check.text(m.getName() + java.util.Arrays.toString(arguments), "threw " + e.getCause(), "an answer");
            return 0;
        }
    }

    private WhoRules anyWorld() {
        WhoRules x = new WhoRules();
        int holders = dice.below(17);
        for (int h = 0; h < holders; h++) {
            x.holder(dice.one(2) ? 1 : dice.below(6), dice.below(4));
        }
        TextMaker texts = new TextMaker(dice);
        for (int k = 0; k < 60 && holders > 0; k++) {
            x.share(dice.below(holders), dice.below(holders), dice.below(5), dice.below(100));
            x.sale(dice.below(40), dice.below(holders));
            x.price(dice.below(40), dice.below(10));
            x.motion(dice.below(1 << holders), 0);
            if (dice.one(4)) {
                Texts.charter(x, dice.below(holders), dice.below(30), texts.text());
                x.pass(dice.below(9));
                x.tape(dice.below(6), dice.below(5), dice.below(61));
            }
        }
        return x;
    }

    private void wild(int calls) throws IllegalAccessException {
        WhoRules x = anyWorld();
        for (int k = 0; k < calls; k++) {
            wildCall(x, face.get(dice.below(face.size())));
        }
        check.due("still there", x.count(1) >= 0 && x.count(1) <= 16 ? 1 : 0, 1);
    }

    /** What answers NONE, BAD, STATE, FULL or a refusal of the host has changed nothing. */
    private void refusals(int calls) throws IllegalAccessException {
        WhoRules x = anyWorld();
        String before = seen(x);
        for (int k = 0; k < calls; k++) {
            Method m = face.get(dice.below(face.size()));
            if (m.getName().equals("act")) {
                continue;
            }
            long answer = wildCall(x, m);
            String after = seen(x);
            boolean refused = answer >= -4 && answer < 0 || answer >= -14 && answer <= -11 || answer == Long.MIN_VALUE;
            if (refused && !m.getName().equals("charter")) {
                check.text("after " + m.getName(), after, before);
            }
            before = after;
        }
    }

    private static String seen(WhoRules x) {
        StringBuilder s = new StringBuilder();
        for (int what = 0; what <= 9; what++) {
            s.append(x.count(what)).append(' ');
        }
        for (int share = 0; share < 40; share++) {
            for (int what = 0; what < 4; what++) {
                s.append(x.of(share, what)).append(' ');
            }
            s.append(x.held(share, 999, 0)).append(' ').append(x.held(share, 999, 1)).append(' ');
        }
        for (int firm = 0; firm < 16; firm++) {
            for (int word = 0; word < 5; word++) {
                s.append(x.why(firm, word, 999)).append(' ').append(x.force(firm, word, 999, 0)).append(' ');
            }
            s.append(x.alike(0, firm, 0)).append(' ').append(x.alike(1, firm, 1)).append(' ');
            s.append(x.taken(firm, 0)).append(' ');
        }
        for (int tape = 0; tape < 6; tape++) {
            for (int i = 0; i < 60; i++) {
                s.append(x.read(tape, i)).append(' ');
            }
        }
        for (int i = 0; i < 20; i++) {
            s.append(x.trace(i)).append(' ');
        }
        return s.toString();
    }

    /** Everything at its limit: the sums that are greatest and the searches that are longest still answer. */
    private void fullest() {
        WhoRules x = new WhoRules();
        for (int f = 0; f < 7; f++) {
            x.holder(1, 0);
        }
        for (int p = 7; p < 16; p++) {
            x.holder(2, 0);
        }
        for (int s = 0; s < 40; s++) {
            x.share(s % 7, s % 2 == 0 ? (s + 1) % 7 : 7 + s % 9, s < 35 ? 2 : 1, 99);
            x.price(s, 999);
        }
        for (int c = 0; c < 20; c++) {
            StringBuilder text = new StringBuilder("old 1 999;most 999;need 998 999;sleep !!!!k=9");
            while (text.length() < 96) {
                text.append("|h=9");
            }
            check.due("charter", Texts.charter(x, c % 7, 0, text.toString()), c);
        }
        x.pass(9);
        for (int k = 0; k < 130; k++) {
            x.sale(k % 40, k % 16);
        }
        check.due("sales", x.count(4), 120);
        for (int f = 0; f < 7; f++) {
            for (int h = 0; h < 16; h++) {
                check.due("votes at most", x.votes(f, h, 999) <= 999 ? 1 : 0, 1);
                check.due("turns", x.pivot(f, h) >= 0 ? 1 : 0, 1);
                check.due("buys", x.buy(h, f, 1) <= 8 * 999 ? 1 : 0, 1);
                check.due("a fraction", h < 7 || x.worth(f, h, 0) <= x.worth(f, h, 1) ? 1 : 0, 1);
            }
        }
    }
}
