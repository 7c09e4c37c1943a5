import java.util.ArrayList;
import java.util.List;
import java.util.Map;
import java.util.TreeMap;

/** Thrown runs of calls, in which the program must answer as the model of the document does. */
public final class ModelTest {
    private static final int RUNS = 400;
    /** What the document promises of one object, less what one round of a run may call. */
    private static final int CALLS = 512 - 40;

    private final Dice dice;
    private final TextMaker texts;
    private final Pair pair;
    private int holders;
    private final List<Integer> firms = new ArrayList<>();
    private final List<Integer> persons = new ArrayList<>();
    private int shares;
    private int today;
    /** 0 anything, 1 firms that own firms whole, 2 many persons in few firms, 3 firms ruled in chains. */
    private final int world;
    private final boolean few;
    /** What a run does time and again, so that its limit is reached: 0 shares, 1 sales, 2 texts, 3 motions; else nothing. */
    private final int crowd;

    private ModelTest(long seed, Check check, Map<String, Integer> kinds) {
        dice = new Dice(seed);
        world = dice.below(4);
        few = dice.one(3);
        crowd = dice.below(8);
        texts = new TextMaker(dice);
        pair = new Pair(check, "run " + seed, kinds);
    }

    public static void main(String[] args) {
        int runs = args.length > 0 ? Integer.parseInt(args[0]) : RUNS;
        int start = args.length > 1 ? Integer.parseInt(args[1]) : 1;
        Check check = new Check("model");
        Map<String, Integer> kinds = new TreeMap<>();
        for (int seed = start; seed < start + runs; seed++) {
            new ModelTest(seed, check, kinds).run();
        }
        if (args.length > 2) {
            kinds.forEach((k, v) -> System.out.println(k + ": " + v));
        }
        if (runs >= RUNS) {
            for (String call : List.of("holder", "share", "sale", "feed", "charter", "motion")) {
                check.due("FULL was reached by " + call, kinds.containsKey(call + " " + WhoRules.FULL) ? 1 : 0, 1);
            }
        }
        check.end();
    }

    private void run() {
        found();
        while (pair.calls() < CALLS && !pair.differs()) {
            if (crowd < 4 && dice.one(2)) {
                crowd();
            } else if (dice.one(6)) {
                change();
            } else {
                ask();
            }
        }
    }

    /** A world to ask about: most of its firms owned by firms and by a few persons. */
    private void found() {
        int wanted = dice.one(4) || world == 2 ? 16 : dice.from(4, 12);
        int firmsWanted = world == 2 ? dice.from(1, 2) : world == 3 ? dice.from(3, 5) : dice.from(1, 7);
        for (int h = 0; h < wanted; h++) {
            boolean firm = firms.size() < firmsWanted && dice.below(3) > 0;
            boolean other = world == 3 && persons.size() >= 4;
            newHolder(firm ? 1 : other ? dice.of(0, 4, 5) : dice.of(2, 2, 2, 3, 3, 0, 4, 5));
        }
        int sharesWanted = world == 2 ? dice.from(12, 30) : dice.from(3, 24);
        for (int s = 0; s < sharesWanted; s++) {
            newShare();
        }
        int textsWanted = dice.below(6);
        for (int c = 0; c < textsWanted; c++) {
            newText(texts.text());
        }
        for (int s = 0; s < shares; s++) {
            if (dice.one(2)) {
                pair.price(s, dice.from(0, 30));
            }
        }
    }

    private void newHolder(int kind) {
        int number = pair.holder(kind, dice.of(0, 1, dice.from(-1, 4)));
        if (number >= 0) {
            holders++;
            if (kind == 1) {
                firms.add(number);
            }
            if (kind == 2 || kind == 3) {
                persons.add(number);
            }
        }
    }

    private void newShare() {
        int parts = dice.one(20) ? dice.from(-1, 13) : world == 1 ? dice.of(3, 6, 6, 12) : dice.of(0, 1, 1, 2);
        int votes = dice.one(20) ? dice.from(-1, 100) : dice.below(few ? 3 : 12);
        int number = pair.share(firm(), newOwner(), parts, votes);
        shares += number >= 0 ? 1 : 0;
    }

    private int newOwner() {
        if (world == 1 && dice.below(8) > 0) {
            return firm();
        }
        return world == 3 ? dice.of(firm(), person()) : dice.of(holder(), firm(), person(), holder());
    }

    private void newText(String text) {
        for (int i = 0; i < text.length(); i += 4) {
            int n = Math.min(4, text.length() - i);
            int bytes = dice.one(2) ? 0 : dice.any();
            for (int k = 0; k < n; k++) {
                bytes = bytes << 8 | text.charAt(i + k);
            }
            pair.feed(bytes, n);
        }
        pair.charter(firm(), dice.of(0, 0, today, dice.from(-1, 30)));
    }

    private int holder() {
        return dice.one(25) ? dice.from(-2, 17) : dice.below(Math.max(1, holders));
    }

    private int firm() {
        return firms.isEmpty() || dice.one(25) ? holder() : firms.get(dice.below(firms.size()));
    }

    private int person() {
        return persons.isEmpty() || dice.one(25) ? holder() : persons.get(dice.below(persons.size()));
    }

    private int share() {
        return dice.one(25) ? dice.from(-2, 41) : dice.below(Math.max(1, shares));
    }

    private int day() {
        return dice.one(20) ? dice.of(-1, 999, 1000, dice.any()) : dice.of(0, today, dice.below(today + 10));
    }

    private int set() {
        return dice.one(20) ? dice.any() : dice.below(1 << holders);
    }

    private int oneOf(int least, int most) {
        return dice.one(20) ? dice.of(least - 1, most + 1, dice.any()) : dice.from(least, most);
    }

    private void change() {
        switch (dice.below(12)) {
            case 0 -> {
                int to = pair.pass(dice.one(9) ? oneOf(1, 99) : dice.from(1, 6));
                today = to > 0 ? to : today;
            }
            case 1 -> newHolder(oneOf(0, 5));
            case 2, 3 -> newShare();
            case 4 -> pair.price(share(), dice.one(9) ? oneOf(0, 999) : dice.from(0, 9));
            case 5, 6, 7 -> pair.sale(share(), dice.of(holder(), firm(), person()));
            case 8 -> newText(texts.text());
            case 9, 10 -> newMotion();
            default -> pair.feed(dice.any(), oneOf(0, 4));
        }
    }

    private void crowd() {
        switch (crowd) {
            case 0 -> newShare();
            case 1 -> pair.sale(share(), dice.of(holder(), firm(), person()));
            case 2 -> newText(texts.shortText());
            default -> newMotion();
        }
    }

    private void newMotion() {
        int yes = set();
        pair.motion(yes, dice.one(20) ? set() : set() & ~yes);
    }

    private void ask() {
        switch (dice.below(31)) {
            case 0 -> pair.of(share(), oneOf(0, 3));
            case 1 -> pair.held(share(), day(), oneOf(0, 1));
            case 2, 3 -> pair.force(firm(), oneOf(0, 4), day(), share());
            case 4 -> pair.why(firm(), oneOf(0, 4), day());
            case 5 -> pair.votes(firm(), holder(), day());
            case 6 -> pair.carry(firm(), set(), day());
            case 7 -> pair.ruler(firm(), day());
            case 8 -> pair.step(day(), oneOf(-1, 3));
            case 9, 10 -> pair.all(day(), dice.of(-1, oneOf(-1, 8)), firm());
            case 11, 12 -> tellProof();
            case 13, 14 -> pair.worth(firm(), holder(), oneOf(0, 1));
            case 15 -> pair.hollow(firm());
            case 16, 17 -> pair.pivot(firm(), holder());
            case 18 -> pair.buy(person(), firm(), oneOf(0, 1));
            case 19 -> pair.sold(share());
            case 20 -> pair.free(firm());
            case 21, 22 -> pair.may(person(), firm(), oneOf(0, 12), oneOf(0, 1));
            case 23 -> pair.alike(holder(), holder(), oneOf(0, 1));
            case 24 -> pair.found(dice.of(1, 2, 3, oneOf(1, 30)));
            case 25 -> pair.ring(oneOf(-1, 7));
            case 26 -> pair.breaks();
            case 27 -> pair.act(holder(), oneOf(0, 2), dice.any());
            case 28 -> pair.trace(oneOf(0, 8));
            case 29 -> {
                pair.taken(holder(), oneOf(0, 5));
                pair.count(oneOf(0, 9));
            }
            default -> askTapes();
        }
    }

    /** The steps of least as pairs on a tape, some of them spoilt. */
    private void tellProof() {
        int tape = dice.below(6);
        int n = dice.from(1, 7);
        pair.tape(tape, dice.one(15) ? oneOf(-1, 4) : 1, dice.one(4) ? dice.below(14) : 14);
        int steps = pair.step(today, -1);
        for (int k = 0; k < Math.min(n, Math.max(1, steps)); k++) {
            int firm = pair.step(today, k);
            int ruler = pair.ruler(firm, today);
            pair.item(tape, 2 * k, dice.one(12) ? firm() : firm);
            pair.item(tape, 2 * k + 1, dice.one(12) ? person() : ruler);
        }
        pair.proof(tape, dice.one(12) ? dice.of(-2, -1, 1, 2, 13, dice.any()) : 0, dice.one(12) ? oneOf(1, 7) : n);
    }

    private void askTapes() {
        switch (dice.below(4)) {
            case 0 -> pair.tape(oneOf(0, 5), oneOf(-1, 4), dice.of(oneOf(0, 60), dice.below(12)));
            case 1 -> pair.item(oneOf(0, 5), oneOf(0, 12), (long) dice.any() << 32 ^ dice.any());
            case 2 -> pair.read(oneOf(0, 5), oneOf(0, 12));
            default -> pair.shift(oneOf(0, 5), oneOf(0, 8), oneOf(0, 5), oneOf(0, 8), oneOf(0, 8));
        }
    }
}
