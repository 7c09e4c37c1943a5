import java.math.BigInteger;
import java.util.ArrayList;
import java.util.Arrays;
import java.util.List;
import java.util.regex.Matcher;
import java.util.regex.Pattern;

/**
 * The document over again, word by word and without any care for speed: texts by patterns, groups as
 * sets, every row and every set tried. The random runs compare the program with it.
 */
final class Model {
    static final int NONE = -1, BAD = -2, STATE = -3, FULL = -4;
    static final long NO = Long.MIN_VALUE;

    private record Share(int firm, int parts, int votes) { }

    private record Move(int share, int holder, int day) { }

    private record Charter(int firm, int day, String[] clauses) { }

    private record Motion(int yes, int no) { }

    /** Who has each share, since when, on a day. */
    private static final class Scene {
        int day;
        int[] owner;
        int[] since;

        Scene copy() {
            Scene s = new Scene();
            s.day = day;
            s.owner = owner.clone();
            s.since = since.clone();
            return s;
        }

        Scene with(int share, int holder) {
            Scene s = copy();
            s.owner[share] = holder;
            s.since[share] = holder < 0 ? -5 : day;
            return s;
        }
    }

    private int today;
    private final List<int[]> holders = new ArrayList<>();
    private final List<Share> shares = new ArrayList<>();
    private final List<Integer> prices = new ArrayList<>();
    private final List<Move> moves = new ArrayList<>();
    private int sales;
    private final StringBuilder text = new StringBuilder();
    private final List<Charter> charters = new ArrayList<>();
    private final List<Motion> motions = new ArrayList<>();
    private final List<Integer> trace = new ArrayList<>();
    private final long[][] tapes = new long[6][];
    private final int[] sorts = new int[6];

    // ---- holders, shares

    int pass(int n) {
        if (n < 1 || n > 99 || today + n > 999) {
            return BAD;
        }
        today += n;
        return today;
    }

    private boolean isHolder(int h) {
        return h >= 0 && h < holders.size();
    }

    private int kind(int h) {
        return holders.get(h)[0];
    }

    private boolean isFirm(int h) {
        return isHolder(h) && kind(h) == 1;
    }

    private boolean isShare(int s) {
        return s >= 0 && s < shares.size();
    }

    private static boolean isDay(int d) {
        return d >= 0 && d <= 999;
    }

    private List<Integer> firms() {
        List<Integer> firms = new ArrayList<>();
        for (int h = 0; h < holders.size(); h++) {
            if (isFirm(h)) {
                firms.add(h);
            }
        }
        return firms;
    }

    private List<Integer> rulers() {
        List<Integer> rulers = new ArrayList<>();
        boolean[] families = new boolean[4];
        for (int h = 0; h < holders.size(); h++) {
            if (kind(h) == 2) {
                rulers.add(h);
            }
            if (kind(h) == 3 && !families[holders.get(h)[1]]) {
                rulers.add(h);
                families[holders.get(h)[1]] = true;
            }
        }
        return rulers;
    }

    int holder(int kind, int family) {
        if (kind < 0 || kind > 5 || kind == 3 && (family < 0 || family > 3)) {
            return NONE;
        }
        if (holders.size() == 16 || kind == 1 && firms().size() == 7) {
            return FULL;
        }
        holders.add(new int[] {kind, kind == 3 ? family : 0});
        return holders.size() - 1;
    }

    int share(int firm, int holder, int parts, int votes) {
        if (!isFirm(firm) || !isHolder(holder)) {
            return NONE;
        }
        if (parts < 0 || parts > 12 || votes < 0 || votes > 99) {
            return BAD;
        }
        int sum = parts;
        for (Share s : shares) {
            sum += s.firm == firm ? s.parts : 0;
        }
        if (sum > 12) {
            return STATE;
        }
        if (shares.size() == 40) {
            return FULL;
        }
        shares.add(new Share(firm, parts, votes));
        prices.add(0);
        moves.add(new Move(shares.size() - 1, holder, today));
        return shares.size() - 1;
    }

    int price(int share, int n) {
        if (!isShare(share)) {
            return NONE;
        }
        if (n < 0 || n > 999) {
            return BAD;
        }
        return prices.set(share, n);
    }

    private Move moveOn(int share, int day) {
        Move last = null;
        for (Move m : moves) {
            if (m.share == share && m.day <= day) {
                last = m;
            }
        }
        return last;
    }

    private Scene scene(int day) {
        Scene s = new Scene();
        s.day = day;
        s.owner = new int[shares.size()];
        s.since = new int[shares.size()];
        for (int i = 0; i < shares.size(); i++) {
            Move m = moveOn(i, day);
            s.owner[i] = m == null ? -5 : m.holder;
            s.since[i] = m == null ? -5 : m.day;
        }
        return s;
    }

    int sale(int share, int holder) {
        if (!isShare(share) || !isHolder(holder)) {
            return NONE;
        }
        if (moveOn(share, today).holder == holder) {
            return STATE;
        }
        if (sales == 120) {
            return FULL;
        }
        moves.add(new Move(share, holder, today));
        sales++;
        return sales;
    }

    int of(int share, int what) {
        if (!isShare(share) || what < 0 || what > 3) {
            return NONE;
        }
        Share s = shares.get(share);
        return new int[] {s.firm, s.parts, s.votes, prices.get(share)}[what];
    }

    int held(int share, int day, int what) {
        if (!isShare(share) || !isDay(day) || what < 0 || what > 1) {
            return NONE;
        }
        Scene s = scene(day);
        return what == 0 ? s.owner[share] : s.since[share];
    }

    // ---- charters

    private static final String N = "[0-9]{1,3}";
    private static final String D = "(?:[1-9][0-9]{0,2}|0[1-9][0-9]?|00[1-9])";
    private static final Pattern TEXT = textPattern();

    private static Pattern textPattern() {
        String test = "[khdpv][<=>]" + N;
        String f = test;
        for (int level = 0; level < 4; level++) {
            f = "(?:" + test + "|!" + f + "|\\(" + any(f) + "\\))";
        }
        String clause = "(?:need " + N + " " + D + "|most " + N + "|old " + N + " " + N + "|gold " + N
                + "|sleep " + any(f) + ")";
        return Pattern.compile(clause + "(?:;" + clause + "){0,5}");
    }

    private static String any(String f) {
        String t = f + "(?:&" + f + ")*";
        return t + "(?:\\|" + t + ")*";
    }

    /** The first byte with which no text begins so; -1 if it is one. */
    static int fault(String s) {
        for (int end = 0; end < s.length(); end++) {
            Matcher m = TEXT.matcher(s.substring(0, end + 1));
            if (!m.matches() && !m.hitEnd()) {
                return end;
            }
        }
        return TEXT.matcher(s).matches() ? -1 : s.length();
    }

    int feed(int bytes, int n) {
        if (n < 0 || n > 4) {
            return BAD;
        }
        if (text.length() + n > 100) {
            return FULL;
        }
        byte[] four = BigInteger.valueOf(bytes & 0xffffffffL | 1L << 32).toByteArray();
        for (int k = 0; k < n; k++) {
            text.append((char) (four[5 - n + k] & 255));
        }
        return text.length();
    }

    int charter(int firm, int day) {
        if (!isFirm(firm)) {
            return NONE;
        }
        if (!isDay(day)) {
            return BAD;
        }
        if (charters.size() == 20) {
            return FULL;
        }
        String s = text.toString();
        text.setLength(0);
        int fault = fault(s);
        if (fault >= 0) {
            return -10 - fault;
        }
        charters.add(new Charter(firm, day, s.split(";")));
        return charters.size() - 1;
    }

    private static final String[] WORDS = {"need", "most", "old", "gold", "sleep"};

    /** The text and the clause in force, or null. */
    private int[] inForce(int firm, int word, int day) {
        int[] best = null;
        int bestDay = -1;
        for (int c = 0; c < charters.size(); c++) {
            Charter ch = charters.get(c);
            if (ch.firm != firm || ch.day > day) {
                continue;
            }
            for (int k = 0; k < ch.clauses.length; k++) {
                if (ch.clauses[k].startsWith(WORDS[word] + " ") && ch.day >= bestDay) {
                    best = new int[] {c, k};
                    bestDay = ch.day;
                }
            }
        }
        return best;
    }

    /** The numbers of the clause in force, or those that hold without any. */
    private int[] numbers(int firm, int word, int day) {
        int[] at = inForce(firm, word, day);
        if (at == null) {
            return new int[][] {{1, 2}, {999}, {999, 1}, {-5}}[word];
        }
        String[] words = charters.get(at[0]).clauses[at[1]].split(" ");
        int[] numbers = new int[words.length - 1];
        for (int i = 0; i < numbers.length; i++) {
            numbers[i] = Integer.parseInt(words[i + 1]);
        }
        return numbers;
    }

    private boolean sleeps(Scene scene, int firm, int share) {
        int[] at = inForce(firm, 4, scene.day);
        if (at == null || scene.owner[share] < 0) {
            return false;
        }
        String e = charters.get(at[0]).clauses[at[1]].substring(6);
        Share s = shares.get(share);
        int[] facts = {kind(scene.owner[share]), scene.owner[share], scene.day - scene.since[share], s.parts, s.votes};
        return truth(e, facts);
    }

    /** Splits at the weakest sign that stands outside all brackets. */
    private static boolean truth(String e, int[] facts) {
        for (char sign : new char[] {'|', '&'}) {
            int depth = 0;
            for (int i = 0; i < e.length(); i++) {
                depth += e.charAt(i) == '(' ? 1 : e.charAt(i) == ')' ? -1 : 0;
                if (depth == 0 && e.charAt(i) == sign) {
                    boolean a = truth(e.substring(0, i), facts);
                    boolean b = truth(e.substring(i + 1), facts);
                    return sign == '|' ? a || b : a && b;
                }
            }
        }
        if (e.charAt(0) == '!') {
            return !truth(e.substring(1), facts);
        }
        if (e.charAt(0) == '(') {
            return truth(e.substring(1, e.length() - 1), facts);
        }
        int fact = facts["khdpv".indexOf(e.charAt(0))];
        int n = Integer.parseInt(e.substring(2));
        return switch (e.charAt(1)) {
            case '<' -> fact < n;
            case '=' -> fact == n;
            default -> fact > n;
        };
    }

    int force(int firm, int word, int day, int share) {
        if (!isFirm(firm) || word < 0 || word > 4 || word == 4 && !isShare(share)) {
            return NONE;
        }
        if (!isDay(day)) {
            return BAD;
        }
        if (word == 4) {
            return sleeps(scene(day), firm, share) ? 1 : 0;
        }
        int[] n = numbers(firm, word, day);
        return n.length == 2 ? 1000 * n[0] + n[1] : n[0];
    }

    int why(int firm, int word, int day) {
        if (!isFirm(firm) || word < 0 || word > 4) {
            return NONE;
        }
        if (!isDay(day)) {
            return BAD;
        }
        int[] at = inForce(firm, word, day);
        return at == null ? -5 : 100 * at[0] + at[1];
    }

    private int votesIn(Scene scene, int firm, int holder) {
        if (kind(holder) == 4 || kind(holder) == 5 || holder == firm) {
            return 0;
        }
        int[] old = numbers(firm, 2, scene.day);
        int sum = 0;
        for (int s = 0; s < shares.size(); s++) {
            if (shares.get(s).firm == firm && scene.owner[s] == holder && !sleeps(scene, firm, s)) {
                int times = scene.day - scene.since[s] >= old[0] ? old[1] : 1;
                sum += shares.get(s).votes * times;
            }
        }
        return Math.min(sum, numbers(firm, 1, scene.day)[0]);
    }

    int votes(int firm, int holder, int day) {
        if (!isFirm(firm) || !isHolder(holder) || !isDay(day)) {
            return NONE;
        }
        return votesIn(scene(day), firm, holder);
    }

    /** All votes in all firms of a scene: what carries is asked of these. */
    private final class Poll {
        final int[][] votes = new int[holders.size()][holders.size()];
        final int[][] need = new int[holders.size()][];
        final int[] gold = new int[holders.size()];

        Poll(Scene scene) {
            for (int s = 0; s < shares.size(); s++) {
                int h = scene.owner[s];
                int f = shares.get(s).firm;
                if (h >= 0 && h != f && kind(h) < 4 && !sleeps(scene, f, s)) {
                    int[] old = numbers(f, 2, scene.day);
                    votes[f][h] += shares.get(s).votes * (scene.day - scene.since[s] >= old[0] ? old[1] : 1);
                }
            }
            for (int f : firms()) {
                int most = numbers(f, 1, scene.day)[0];
                for (int h = 0; h < holders.size(); h++) {
                    votes[f][h] = Math.min(votes[f][h], most);
                }
                need[f] = numbers(f, 0, scene.day);
                gold[f] = numbers(f, 3, scene.day)[0];
            }
        }

        boolean carries(int firm, int set) {
            long these = 0;
            long all = 0;
            for (int h = 0; h < holders.size(); h++) {
                all += votes[firm][h];
                these += (set & 1 << h) != 0 ? votes[firm][h] : 0;
            }
            boolean agreed = !isHolder(gold[firm]) || (set & 1 << gold[firm]) != 0;
            return agreed && need[firm][1] * these > need[firm][0] * all;
        }
    }

    private boolean isSet(int set) {
        return set >= 0 && set < 1 << holders.size();
    }

    int carry(int firm, int set, int day) {
        if (!isFirm(firm) || !isDay(day)) {
            return NONE;
        }
        if (!isSet(set)) {
            return BAD;
        }
        return new Poll(scene(day)).carries(firm, set) ? 1 : 0;
    }

    // ---- rule

    /** The group of a ruler, if ruled tells of each firm its ruler or -5. */
    private int group(int ruler, int[] ruled) {
        int set = 1 << ruler;
        for (int h = 0; h < holders.size(); h++) {
            if (kind(ruler) == 3 && kind(h) == 3 && holders.get(h)[1] == holders.get(ruler)[1]) {
                set |= 1 << h;
            }
            if (isFirm(h) && ruled[h] == ruler) {
                set |= 1 << h;
            }
        }
        return set;
    }

    /** The rulers by least, and the steps. */
    private int[] least(Scene scene, List<Integer> steps) {
        Poll poll = new Poll(scene);
        int[] ruled = new int[holders.size()];
        Arrays.fill(ruled, -5);
        boolean brought = true;
        while (brought) {
            brought = false;
            for (int f : firms()) {
                for (int r : rulers()) {
                    if (ruled[f] < 0 && poll.carries(f, group(r, ruled))) {
                        ruled[f] = r;
                        steps.add(f);
                        brought = true;
                    }
                }
            }
        }
        return ruled;
    }

    private int[] least(Scene scene) {
        return least(scene, new ArrayList<>());
    }

    int ruler(int firm, int day) {
        if (!isFirm(firm) || !isDay(day)) {
            return NONE;
        }
        return least(scene(day))[firm];
    }

    int step(int day, int i) {
        if (!isDay(day) || i < -1) {
            return NONE;
        }
        List<Integer> steps = new ArrayList<>();
        least(scene(day), steps);
        return i == -1 ? steps.size() : i < steps.size() ? steps.get(i) : NONE;
    }

    int all(int day, int i, int firm) {
        if (!isDay(day) || !isFirm(firm) || i < -1) {
            return NONE;
        }
        if (firms().size() > 5 || rulers().size() > 4) {
            return -9;
        }
        int[] ruled = new int[holders.size()];
        Arrays.fill(ruled, -5);
        List<int[]> fits = new ArrayList<>();
        fill(new Poll(scene(day)), 0, ruled, fits);
        return i == -1 ? fits.size() : i < fits.size() ? fits.get(i)[firm] : NONE;
    }

    private void fill(Poll poll, int place, int[] ruled, List<int[]> fits) {
        List<Integer> firms = firms();
        if (place == firms.size()) {
            if (fits(poll, ruled)) {
                fits.add(ruled.clone());
            }
            return;
        }
        ruled[firms.get(place)] = -5;
        fill(poll, place + 1, ruled, fits);
        for (int r : rulers()) {
            ruled[firms.get(place)] = r;
            fill(poll, place + 1, ruled, fits);
        }
        ruled[firms.get(place)] = -5;
    }

    private boolean fits(Poll poll, int[] ruled) {
        for (int f : firms()) {
            if (ruled[f] >= 0 && !poll.carries(f, group(ruled[f], ruled))) {
                return false;
            }
            for (int r : rulers()) {
                if (ruled[f] < 0 && poll.carries(f, group(r, ruled))) {
                    return false;
                }
            }
        }
        return true;
    }

    int proof(int tape, int i, int n) {
        if (tape < 0 || tape > 5) {
            return NONE;
        }
        if (n < 1 || n > 7) {
            return BAD;
        }
        if (tapes[tape] == null) {
            return 100;
        }
        if (sorts[tape] != 1) {
            return -12;
        }
        Poll poll = new Poll(scene(today));
        int[] ruled = new int[holders.size()];
        Arrays.fill(ruled, -5);
        int good = 0;
        boolean stopped = false;
        boolean torn = false;
        for (int k = 0; k < n; k++) {
            long a = (long) i + 2 * k;
            if (a < 0 || a + 1 >= tapes[tape].length) {
                torn = true;
                stopped = true;
            }
            if (!stopped) {
                int f = (int) tapes[tape][(int) a];
                int r = (int) tapes[tape][(int) a + 1];
                if (isFirm(f) && ruled[f] < 0 && rulers().contains(r) && poll.carries(f, group(r, ruled))) {
                    ruled[f] = r;
                    good++;
                } else {
                    stopped = true;
                }
            }
        }
        return good + (torn ? 100 : 0);
    }

    // ---- worth, turns

    private record Part(BigInteger above, BigInteger below) {
        static final Part ZERO = of(0, 1);

        static Part of(long a, long b) {
            return new Part(BigInteger.valueOf(a), BigInteger.valueOf(b)).low();
        }

        Part low() {
            BigInteger g = above.gcd(below);
            g = below.signum() < 0 ? g.negate() : g;
            return new Part(above.divide(g), below.divide(g));
        }

        Part plus(Part o) {
            return new Part(above.multiply(o.below).add(o.above.multiply(below)), below.multiply(o.below)).low();
        }

        Part times(Part o) {
            return new Part(above.multiply(o.above), below.multiply(o.below)).low();
        }

        Part over(Part o) {
            return times(new Part(o.below, o.above));
        }

        Part minus(Part o) {
            return plus(o.times(of(-1, 1)));
        }
    }

    /** Parts of a firm by holders; behind them what is nobody's. */
    private int[] partsOf(int firm) {
        int[] parts = new int[holders.size() + 1];
        parts[holders.size()] = 12;
        Scene scene = scene(today);
        for (int s = 0; s < shares.size(); s++) {
            if (shares.get(s).firm == firm) {
                parts[scene.owner[s]] += shares.get(s).parts;
                parts[holders.size()] -= shares.get(s).parts;
            }
        }
        return parts;
    }

    private boolean isHollow(int firm) {
        int reached = 1 << firm;
        for (int round = 0; round < 8; round++) {
            for (int f : firms()) {
                int[] parts = partsOf(f);
                for (int h = 0; h <= holders.size(); h++) {
                    if ((reached & 1 << f) != 0 && parts[h] > 0) {
                        reached |= 1 << h;
                    }
                }
            }
        }
        for (int f : firms()) {
            reached &= ~(1 << f);
        }
        return reached == 0;
    }

    long worth(int firm, int holder, int part) {
        if (!isFirm(firm) || !isHolder(holder) || isFirm(holder) || part < 0 || part > 1) {
            return NO;
        }
        Part w = worthOf(firm, holder);
        return (part == 0 ? w.above : w.below).longValueExact();
    }

    /** Firms go out of the coin's ways one by one, till only the way to the holder is left. */
    private Part worthOf(int firm, int holder) {
        if (isHollow(firm)) {
            return Part.ZERO;
        }
        int n = holders.size();
        Part[][] goes = new Part[n][n];
        for (int f = 0; f < n; f++) {
            int[] parts = isFirm(f) && !isHollow(f) ? partsOf(f) : new int[n + 1];
            for (int h = 0; h < n; h++) {
                goes[f][h] = Part.of(parts[h], 12);
            }
        }
        for (int out : firms()) {
            if (out == firm || isHollow(out)) {
                continue;
            }
            Part stays = Part.of(1, 1).minus(goes[out][out]);
            for (int f : firms()) {
                if (f != out) {
                    Part via = goes[f][out].over(stays);
                    for (int h = 0; h < n; h++) {
                        goes[f][h] = h == out ? Part.ZERO : goes[f][h].plus(via.times(goes[out][h]));
                    }
                }
            }
        }
        return goes[firm][holder].over(Part.of(1, 1).minus(goes[firm][firm]));
    }

    int hollow(int firm) {
        return isFirm(firm) ? isHollow(firm) ? 1 : 0 : NONE;
    }

    int pivot(int firm, int holder) {
        if (!isFirm(firm) || !isHolder(holder)) {
            return NONE;
        }
        Scene scene = scene(today);
        int[] ruled = least(scene);
        Poll poll = new Poll(scene);
        List<Integer> blocks = new ArrayList<>();
        int mine = 0;
        for (int h = 0; h < holders.size(); h++) {
            int block = blockOf(h, ruled);
            boolean there = isHolder(poll.gold[firm]) && (block & 1 << poll.gold[firm]) != 0;
            for (int k = 0; k < holders.size(); k++) {
                there |= (block & 1 << k) != 0 && poll.votes[firm][k] > 0;
            }
            if (there && (block & 1 << holder) != 0) {
                mine = block;
            } else if (there && !blocks.contains(block)) {
                blocks.add(block);
            }
        }
        if (mine == 0) {
            return 0;
        }
        int turns = 0;
        for (int way = 0; way < 1 << blocks.size(); way++) {
            int yes = 0;
            for (int b = 0; b < blocks.size(); b++) {
                yes |= (way & 1 << b) != 0 ? blocks.get(b) : 0;
            }
            if (poll.carries(firm, yes | mine) && !poll.carries(firm, yes)) {
                turns++;
            }
        }
        return turns;
    }

    private int blockOf(int h, int[] ruled) {
        if (isFirm(h)) {
            return ruled[h] < 0 ? 1 << h : group(ruled[h], ruled);
        }
        for (int r : rulers()) {
            if ((group(r, ruled) & 1 << h) != 0) {
                return group(r, ruled);
            }
        }
        return 1 << h;
    }

    // ---- bought, sold, papers

    private long[] cheapest(int ruler, int firm) {
        Scene scene = scene(today);
        List<Integer> sold = new ArrayList<>();
        for (int s = 0; s < shares.size() && sold.size() < 8; s++) {
            if (prices.get(s) > 0 && scene.owner[s] != ruler) {
                sold.add(s);
            }
        }
        long[] best = null;
        for (int way = 0; way < 1 << sold.size(); way++) {
            Scene after = scene;
            long[] key = {0, 0, 0};
            for (int k = 0; k < sold.size(); k++) {
                if ((way & 1 << k) != 0) {
                    after = after.with(sold.get(k), ruler);
                    key[0] += prices.get(sold.get(k));
                    key[1]++;
                    key[2] |= 1L << sold.get(k);
                }
            }
            if ((best == null || Arrays.compare(key, best) < 0) && least(after)[firm] == ruler) {
                best = key;
            }
        }
        return best;
    }

    long buy(int ruler, int firm, int what) {
        if (!rulers().contains(ruler) || !isFirm(firm) || what < 0 || what > 1) {
            return NO;
        }
        long[] best = cheapest(ruler, firm);
        return best == null ? -5 : what == 0 ? best[2] : best[0];
    }

    int sold(int share) {
        if (!isShare(share)) {
            return NONE;
        }
        Scene scene = scene(today);
        int[] before = least(scene);
        int[] after = least(scene.with(share, -5));
        int bits = 0;
        for (int f : firms()) {
            bits |= before[f] != after[f] ? 1 << f : 0;
        }
        return bits;
    }

    long free(int firm) {
        if (!isFirm(firm)) {
            return NO;
        }
        Scene scene = scene(today);
        int[] ruled = least(scene);
        if (ruled[firm] < 0) {
            return NO;
        }
        int group = group(ruled[firm], ruled);
        List<Integer> theirs = new ArrayList<>();
        for (int s = 0; s < shares.size() && theirs.size() < 8; s++) {
            if ((group & 1 << scene.owner[s]) != 0) {
                theirs.add(s);
            }
        }
        long[] best = null;
        for (int way = 0; way < 1 << theirs.size(); way++) {
            Scene after = scene;
            long[] key = {0, 0};
            for (int k = 0; k < theirs.size(); k++) {
                if ((way & 1 << k) != 0) {
                    after = after.with(theirs.get(k), -5);
                    key[0]++;
                    key[1] |= 1L << theirs.get(k);
                }
            }
            if ((best == null || Arrays.compare(key, best) < 0) && least(after)[firm] < 0) {
                best = key;
            }
        }
        return best == null ? -5 : best[1];
    }

    int may(int ruler, int firm, int h, int what) {
        if (!rulers().contains(ruler) || !isFirm(firm) || what < 0 || what > 1) {
            return NONE;
        }
        if (h < 0 || h > 12) {
            return BAD;
        }
        Scene scene = scene(today);
        for (int s = 0; s < shares.size(); s++) {
            if (shares.get(s).parts < h) {
                if (what == 1) {
                    scene = scene.with(s, -5);
                } else if (scene.owner[s] != ruler) {
                    scene = scene.with(s, ruler);
                }
            }
        }
        return least(scene)[firm] == ruler ? 1 : 0;
    }

    // ---- motions, rings

    int motion(int yes, int no) {
        if (!isSet(yes) || !isSet(no) || (yes & no) != 0) {
            return BAD;
        }
        if (motions.size() == 30) {
            return FULL;
        }
        motions.add(new Motion(yes, no));
        return motions.size() - 1;
    }

    int alike(int a, int b, int what) {
        if (!isHolder(a) || !isHolder(b) || what < 0 || what > 1) {
            return NONE;
        }
        return a == b ? BAD : said(a, b, what);
    }

    private int said(int a, int b, int what) {
        int[] times = new int[2];
        for (Motion m : motions) {
            int saidA = (m.yes >> a & 1) - (m.no >> a & 1);
            int saidB = (m.yes >> b & 1) - (m.no >> b & 1);
            if (saidA != 0 && saidB != 0) {
                times[saidA == saidB ? 0 : 1]++;
            }
        }
        return times[what];
    }

    int found(int n) {
        if (n < 1 || n > 30) {
            return BAD;
        }
        int[] set = new int[holders.size()];
        for (int h = 0; h < set.length; h++) {
            set[h] = h;
        }
        for (int a = 0; a < set.length; a++) {
            for (int b = 0; b < a; b++) {
                boolean persons = (kind(a) == 2 || kind(a) == 3) && (kind(b) == 2 || kind(b) == 3);
                if (persons && said(a, b, 0) >= n && said(a, b, 1) == 0) {
                    int old = set[a];
                    for (int h = 0; h < set.length; h++) {
                        set[h] = set[h] == old ? set[b] : set[h];
                    }
                }
            }
        }
        int[] sizes = new int[set.length];
        int sets = 0;
        for (int s : set) {
            sizes[s]++;
            sets += sizes[s] == 2 ? 1 : 0;
        }
        return sets;
    }

    private boolean has(int owner, int firm, List<Integer> without) {
        Scene scene = scene(today);
        for (int s = 0; s < shares.size(); s++) {
            Share sh = shares.get(s);
            if (sh.firm == firm && scene.owner[s] == owner && sh.parts > 0 && !without.contains(s)) {
                return true;
            }
        }
        return false;
    }

    private List<Integer> leastRing() {
        boolean[][] edge = new boolean[holders.size()][holders.size()];
        for (int a : firms()) {
            for (int b : firms()) {
                edge[a][b] = has(a, b, List.of());
            }
        }
        for (int size = 1; size <= firms().size(); size++) {
            List<Integer> row = new ArrayList<>();
            if (complete(row, size, edge)) {
                return row;
            }
        }
        return List.of();
    }

    private boolean complete(List<Integer> row, int size, boolean[][] edge) {
        if (row.size() == size) {
            return edge[row.get(size - 1)][row.get(0)] && row.get(0).equals(row.stream().min(Integer::compare).get());
        }
        for (int f : firms()) {
            if (!row.contains(f) && (row.isEmpty() || edge[row.get(row.size() - 1)][f])) {
                row.add(f);
                if (complete(row, size, edge)) {
                    return true;
                }
                row.remove(row.size() - 1);
            }
        }
        return false;
    }

    int ring(int i) {
        if (i < -1) {
            return NONE;
        }
        List<Integer> ring = leastRing();
        return i == -1 ? ring.size() : i < ring.size() ? ring.get(i) : NONE;
    }

    long breaks() {
        Scene scene = scene(today);
        List<Integer> cuts = new ArrayList<>();
        for (int s = 0; s < shares.size() && cuts.size() < 12; s++) {
            if (shares.get(s).parts > 0 && isFirm(scene.owner[s])) {
                cuts.add(s);
            }
        }
        int best = (1 << cuts.size()) - 1;
        for (int way = best; way >= 0; way--) {
            if (Integer.bitCount(way) <= Integer.bitCount(best) && !ringIn(scene, cuts, way)) {
                best = way;
            }
        }
        long set = 0;
        for (int k = 0; k < cuts.size(); k++) {
            set |= (best & 1 << k) != 0 ? 1L << cuts.get(k) : 0;
        }
        return set;
    }

    private boolean ringIn(Scene scene, List<Integer> cuts, int without) {
        int n = holders.size();
        boolean[][] way = new boolean[n][n];
        for (int k = 0; k < cuts.size(); k++) {
            if ((without & 1 << k) == 0) {
                way[scene.owner[cuts.get(k)]][shares.get(cuts.get(k)).firm] = true;
            }
        }
        for (int via : firms()) {
            for (int a : firms()) {
                for (int b : firms()) {
                    way[a][b] |= way[a][via] && way[via][b];
                }
            }
        }
        for (int f : firms()) {
            if (way[f][f]) {
                return true;
            }
        }
        return false;
    }

    // ---- acts, tapes

    private static final int[] ABOVE = {-1, 0, 0, 2, 0, 4};
    private static final int[][] BODIES = {
        {10, 20, 0, 40, 0, 60}, {11, 0, 30, 41, 0, 0}, {12, 21, 0, 0, 50, 61},
    };

    int act(int holder, int act, int x) {
        trace.clear();
        if (!isHolder(holder) || act < 0 || act > 2) {
            return 0;
        }
        return run(holder, kind(holder), act, x);
    }

    private int run(int i, int from, int act, int x) {
        int kind = from;
        while (BODIES[act][kind] == 0) {
            kind = ABOVE[kind];
        }
        int body = BODIES[act][kind];
        int up = ABOVE[kind];
        int own = kind(i);
        int f = holders.get(i)[1];
        trace.add(body);
        switch (body) {
            case 10: return x + i;
            case 11: return run(i, own, 0, x) * 2;
            case 12: return run(i, own, 1, x) - f;
            case 20: return run(i, up, 0, x) ^ 6;
            case 30: return run(i, up, 1, x * 3);
            case 40: return -run(i, up, 0, x);
            case 60: return run(i, up, 0, x + 4);
            case 61: return run(i, up, 2, x) ^ i;
            default: break;
        }
        if (body == 21) {
            int a = run(i, up, 2, x);
            return a + run(i, own, 0, 1);
        }
        if (body == 41) {
            int a = run(i, up, 1, x);
            return a + run(i, up, 0, f);
        }
        int a = run(i, own, 1, x);
        return a - run(i, up, 2, x);
    }

    int trace(int i) {
        return i >= 0 && i < trace.size() && i < 20 ? trace.get(i) : NONE;
    }

    int taken(int holder, int k) {
        if (k < 0 || k > 5) {
            return BAD;
        }
        if (!isHolder(holder)) {
            return -11;
        }
        for (int kind = kind(holder); kind >= 0; kind = ABOVE[kind]) {
            if (kind == k) {
                return kind(holder);
            }
        }
        return -12;
    }

    int count(int what) {
        int[] counts = {today, holders.size(), firms().size(), shares.size(), sales, charters.size(), text.length(),
            motions.size(), rulers().size(), trace.size()};
        return what >= 0 && what < counts.length ? counts[what] : BAD;
    }

    int tape(int tape, int sort, int n) {
        if (tape < 0 || tape > 5) {
            return NONE;
        }
        if (sort == -1) {
            tapes[tape] = null;
            return 1;
        }
        if (sort < 0 || sort > 4 || n > 60) {
            return BAD;
        }
        if (n < 0) {
            return -14;
        }
        tapes[tape] = new long[n];
        sorts[tape] = sort;
        return 1;
    }

    int item(int tape, int i, long v) {
        if (tape < 0 || tape > 5) {
            return NONE;
        }
        if (tapes[tape] == null) {
            return -11;
        }
        if (i < 0 || i >= tapes[tape].length) {
            return -13;
        }
        tapes[tape][i] = switch (sorts[tape]) {
            case 0 -> (byte) v;
            case 1 -> (short) v;
            case 2 -> (int) v;
            case 3 -> v;
            default -> v == 0 ? 0 : 1;
        };
        return 1;
    }

    long read(int tape, int i) {
        boolean there = tape >= 0 && tape <= 5 && tapes[tape] != null && i >= 0 && i < tapes[tape].length;
        return there ? tapes[tape][i] : NO;
    }

    int shift(int tape, int i, int other, int j, int n) {
        if (tape < 0 || tape > 5 || other < 0 || other > 5) {
            return NONE;
        }
        if (tapes[tape] == null || tapes[other] == null) {
            return -11;
        }
        if (sorts[tape] != sorts[other]) {
            return -12;
        }
        if (n < 0 || i < 0 || j < 0 || (long) i + n > tapes[tape].length || (long) j + n > tapes[other].length) {
            return -13;
        }
        long[] items = Arrays.copyOfRange(tapes[tape], i, i + n);
        for (int k = 0; k < n; k++) {
            tapes[other][j + k] = items[k];
        }
        return n;
    }
}
