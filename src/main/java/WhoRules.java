import java.util.Arrays;

/**
 * Who rules whom: firms that own parts of one another, their charters, and those who rule by them.
 *
 * <p>The calls of the face look at their arguments; the classes inside take only what has been
 * looked at. All rows are made in constructors and used again by every call.
 */
public final class WhoRules {
    public static final int NONE = -1, BAD = -2, STATE = -3, FULL = -4;
    public static final long NO = Long.MIN_VALUE;

    // Answers that have no name in the face.
    private static final int NOBODY = -5, TOO_MANY = -9, FAULTY = -10;
    private static final int NOTHING = -11, CAST = -12, PLACE = -13, SIZE = -14;
    private static final int TORN = 100;

    private static final int HOLDERS = 16, FIRMS = 7, FAMILIES = 4, LAST_DAY = 999, LONGEST_PASS = 99;
    private static final int SHARES = 40, SALES = 120, WHOLE = 12, VOTES_MOST = 99, PRICE_MOST = 999;
    private static final int MOTIONS = 30, BODIES_KEPT = 20;
    private static final int FIRMS_OF_ALL = 5, RULERS_OF_ALL = 4;

    // Kinds.
    private static final int PLAIN = 0, FIRM = 1, PERSON = 2, KIN = 3, FUND = 4, CLUB = 5;

    // Words of clauses.
    private static final int NEED = 0, MOST = 1, OLD = 2, GOLD = 3, SLEEP = 4, WORDS = 5;

    // Sorts of rows on tapes.
    private static final int EMPTY = -1, BYTES = 0, SHORTS = 1, INTS = 2, LONGS = 3, BOOLEANS = 4;
    private static final int TAPES = 6, ITEMS = 60;

    private final int[] trace = new int[BODIES_KEPT + 1];
    private final Register register = new Register();
    private final Charters charters = new Charters();
    private final Rule rule = new Rule(register, charters);
    private final Search search = new Search(register, rule);
    private final Flow flow = new Flow(register);
    private final int[] motionYes = new int[MOTIONS];
    private final int[] motionNo = new int[MOTIONS];
    private int motionCount;
    private final int[] tapeSort = new int[TAPES];
    private final int[] tapeSize = new int[TAPES];
    private final long[][] tapeItems = new long[TAPES][ITEMS];

    public WhoRules() {
        Arrays.fill(tapeSort, EMPTY);
    }

    // ---- holders, shares

    public int pass(int n) {
        if (n < 1 || n > LONGEST_PASS || register.today + n > LAST_DAY) {
            return BAD;
        }
        register.today += n;
        return register.today;
    }

    public int holder(int kind, int family) {
        if (kind < PLAIN || kind > CLUB) {
            return NONE;
        }
        if (kind == KIN && (family < 0 || family >= FAMILIES)) {
            return NONE;
        }
        return register.enter(kind, kind == KIN ? family : 0, trace);
    }

    public int share(int firm, int holder, int parts, int votes) {
        if (!register.isFirm(firm) || !register.isHolder(holder)) {
            return NONE;
        }
        if (parts < 0 || parts > WHOLE || votes < 0 || votes > VOTES_MOST) {
            return BAD;
        }
        if (register.partsIn(firm) + parts > WHOLE) {
            return STATE;
        }
        return register.issue(firm, holder, parts, votes);
    }

    public int price(int share, int n) {
        if (!register.isShare(share)) {
            return NONE;
        }
        if (n < 0 || n > PRICE_MOST) {
            return BAD;
        }
        int before = register.price[share];
        register.price[share] = n;
        return before;
    }

    public int sale(int share, int holder) {
        if (!register.isShare(share) || !register.isHolder(holder)) {
            return NONE;
        }
        register.lookAt(register.today);
        if (register.owner[share] == holder) {
            return STATE;
        }
        if (register.sales() >= SALES) {
            return FULL;
        }
        register.move(share, holder);
        return register.sales();
    }

    public int of(int share, int what) {
        if (!register.isShare(share)) {
            return NONE;
        }
        switch (what) {
            case 0:
                return register.firm[share];
            case 1:
                return register.parts[share];
            case 2:
                return register.votes[share];
            case 3:
                return register.price[share];
            default:
                return NONE;
        }
    }

    public int held(int share, int day, int what) {
        if (!register.isShare(share) || !isDay(day) || what < 0 || what > 1) {
            return NONE;
        }
        register.lookAt(day);
        return what == 0 ? register.owner[share] : register.since[share];
    }

    // ---- charters

    public int feed(int bytes, int n) {
        if (n < 0 || n > 4) {
            return BAD;
        }
        if (charters.length + n > Charters.TEXT_MOST) {
            return FULL;
        }
        for (int k = n - 1; k >= 0; k--) {
            charters.append((byte) (bytes >> (8 * k)));
        }
        return charters.length;
    }

    public int charter(int firm, int day) {
        if (!register.isFirm(firm)) {
            return NONE;
        }
        if (!isDay(day)) {
            return BAD;
        }
        if (charters.count >= Charters.TEXTS) {
            return FULL;
        }
        int fault = charters.parse();
        return fault >= 0 ? FAULTY - fault : charters.enact(firm, day);
    }

    public int force(int firm, int word, int day, int share) {
        if (!register.isFirm(firm) || !isWord(word) || word == SLEEP && !register.isShare(share)) {
            return NONE;
        }
        if (!isDay(day)) {
            return BAD;
        }
        rule.look(day);
        return word == SLEEP ? rule.sleepsNow(firm, share) : charters.told(rule.clause[firm][word], word);
    }

    public int why(int firm, int word, int day) {
        if (!register.isFirm(firm) || !isWord(word)) {
            return NONE;
        }
        if (!isDay(day)) {
            return BAD;
        }
        int clause = charters.inForce(firm, word, day);
        return clause < 0 ? NOBODY : 100 * (clause / Charters.CLAUSES) + clause % Charters.CLAUSES;
    }

    public int votes(int firm, int holder, int day) {
        if (!register.isFirm(firm) || !register.isHolder(holder) || !isDay(day)) {
            return NONE;
        }
        rule.look(day);
        rule.tally();
        return rule.votes[firm][holder];
    }

    public int carry(int firm, int set, int day) {
        if (!register.isFirm(firm) || !isDay(day)) {
            return NONE;
        }
        if (!register.isSet(set)) {
            return BAD;
        }
        rule.look(day);
        rule.tally();
        return rule.carriedBySet(firm, set) ? 1 : 0;
    }

    // ---- rule

    public int ruler(int firm, int day) {
        if (!register.isFirm(firm) || !isDay(day)) {
            return NONE;
        }
        rule.look(day);
        rule.least();
        return rule.block[firm];
    }

    public int step(int day, int i) {
        if (!isDay(day) || i < -1) {
            return NONE;
        }
        rule.look(day);
        rule.least();
        if (i == -1) {
            return rule.stepCount;
        }
        return i < rule.stepCount ? rule.steps[i] : NONE;
    }

    public int all(int day, int i, int firm) {
        if (!isDay(day) || !register.isFirm(firm) || i < -1) {
            return NONE;
        }
        if (register.firmCount > FIRMS_OF_ALL || register.rulerCount > RULERS_OF_ALL) {
            return TOO_MANY;
        }
        rule.look(day);
        return search.fitting(i, firm);
    }

    public int proof(int tape, int i, int n) {
        if (!isTape(tape)) {
            return NONE;
        }
        if (n < 1 || n > FIRMS) {
            return BAD;
        }
        if (tapeSort[tape] == EMPTY) {
            return TORN;
        }
        if (tapeSort[tape] != SHORTS) {
            return CAST;
        }
        int good = goodPairs(tape, i, n);
        return hasPlaces(tape, i, 2 * n) ? good : good + TORN;
    }

    // ---- worth, turns

    public long worth(int firm, int holder, int part) {
        if (!register.isFirm(firm) || !register.isHolder(holder) || register.isFirm(holder)) {
            return NO;
        }
        if (part < 0 || part > 1) {
            return NO;
        }
        flow.unroll(firm, holder);
        return part == 0 ? flow.above : flow.below;
    }

    public int hollow(int firm) {
        if (!register.isFirm(firm)) {
            return NONE;
        }
        return flow.isHollow(firm) ? 1 : 0;
    }

    public int pivot(int firm, int holder) {
        if (!register.isFirm(firm) || !register.isHolder(holder)) {
            return NONE;
        }
        return search.turns(firm, holder);
    }

    // ---- bought, sold, papers

    public long buy(int ruler, int firm, int what) {
        if (!register.isRuler(ruler) || !register.isFirm(firm) || what < 0 || what > 1) {
            return NO;
        }
        long set = search.cheapest(ruler, firm);
        return set < 0 || what == 0 ? set : register.priceOf(set);
    }

    public int sold(int share) {
        return register.isShare(share) ? search.changedWithout(share) : NONE;
    }

    public long free(int firm) {
        return register.isFirm(firm) ? search.fewestToFree(firm) : NO;
    }

    public int may(int ruler, int firm, int h, int what) {
        if (!register.isRuler(ruler) || !register.isFirm(firm) || what < 0 || what > 1) {
            return NONE;
        }
        if (h < 0 || h > WHOLE) {
            return BAD;
        }
        return search.rulesHidden(ruler, firm, h, what == 0 ? ruler : NOBODY) ? 1 : 0;
    }

    // ---- motions, rings

    public int motion(int yes, int no) {
        if (!register.isSet(yes) || !register.isSet(no) || (yes & no) != 0) {
            return BAD;
        }
        if (motionCount >= MOTIONS) {
            return FULL;
        }
        motionYes[motionCount] = yes;
        motionNo[motionCount] = no;
        motionCount++;
        return motionCount - 1;
    }

    public int alike(int a, int b, int what) {
        if (!register.isHolder(a) || !register.isHolder(b) || what < 0 || what > 1) {
            return NONE;
        }
        if (a == b) {
            return BAD;
        }
        return what == 0 ? timesAlike(a, b) : timesApart(a, b);
    }

    public int found(int n) {
        if (n < 1 || n > MOTIONS) {
            return BAD;
        }
        int sets = 0;
        int seen = 0;
        for (int person = 0; person < register.holderCount; person++) {
            if (register.isPerson(person) && (seen >> person & 1) == 0) {
                int set = asOneWith(person, n);
                seen |= set;
                sets += Integer.bitCount(set) > 1 ? 1 : 0;
            }
        }
        return sets;
    }

    public int ring(int i) {
        if (i < -1) {
            return NONE;
        }
        int size = flow.findRing();
        if (i == -1) {
            return size;
        }
        return i < size ? flow.path[i] : NONE;
    }

    public long breaks() {
        return flow.fewestToBreak();
    }

    // ---- acts, tapes

    public int act(int holder, int act, int x) {
        trace[BODIES_KEPT] = 0;
        Holder actor = register.holderAt(holder);
        if (actor == null) {
            return 0;
        }
        switch (act) {
            case 0:
                return actor.doVotes(x);
            case 1:
                return actor.doOwns(x);
            case 2:
                return actor.doRules(x);
            default:
                return 0;
        }
    }

    public int trace(int i) {
        return i >= 0 && i < BODIES_KEPT && i < trace[BODIES_KEPT] ? trace[i] : NONE;
    }

    public int taken(int holder, int k) {
        if (k < PLAIN || k > CLUB) {
            return BAD;
        }
        Holder taken = register.holderAt(holder);
        if (taken == null) {
            return NOTHING;
        }
        return taken.isUnder(k) ? register.kind[holder] : CAST;
    }

    public int count(int what) {
        switch (what) {
            case 0:
                return register.today;
            case 1:
                return register.holderCount;
            case 2:
                return register.firmCount;
            case 3:
                return register.shareCount;
            case 4:
                return register.sales();
            case 5:
                return charters.count;
            case 6:
                return charters.length;
            case 7:
                return motionCount;
            case 8:
                return register.rulerCount;
            case 9:
                return trace[BODIES_KEPT];
            default:
                return BAD;
        }
    }

    public int tape(int tape, int sort, int n) {
        if (!isTape(tape)) {
            return NONE;
        }
        if (sort < EMPTY || sort > BOOLEANS || sort != EMPTY && n > ITEMS) {
            return BAD;
        }
        if (sort != EMPTY && n < 0) {
            return SIZE;
        }
        tapeSort[tape] = sort;
        tapeSize[tape] = sort == EMPTY ? 0 : n;
        Arrays.fill(tapeItems[tape], 0L);
        return 1;
    }

    public int item(int tape, int i, long v) {
        if (!isTape(tape)) {
            return NONE;
        }
        if (tapeSort[tape] == EMPTY) {
            return NOTHING;
        }
        if (!hasPlaces(tape, i, 1)) {
            return PLACE;
        }
        tapeItems[tape][i] = cut(v, tapeSort[tape]);
        return 1;
    }

    public long read(int tape, int i) {
        return isTape(tape) && hasPlaces(tape, i, 1) ? tapeItems[tape][i] : NO;
    }

    public int shift(int tape, int i, int other, int j, int n) {
        if (!isTape(tape) || !isTape(other)) {
            return NONE;
        }
        if (tapeSort[tape] == EMPTY || tapeSort[other] == EMPTY) {
            return NOTHING;
        }
        if (tapeSort[tape] != tapeSort[other]) {
            return CAST;
        }
        if (!hasPlaces(tape, i, n) || !hasPlaces(other, j, n)) {
            return PLACE;
        }
        System.arraycopy(tapeItems[tape], i, tapeItems[other], j, n);
        return n;
    }

    // ---- what the face asks itself

    private static boolean isDay(int day) {
        return day >= 0 && day <= LAST_DAY;
    }

    private static boolean isWord(int word) {
        return word >= 0 && word < WORDS;
    }

    private static boolean isTape(int tape) {
        return tape >= 0 && tape < TAPES;
    }

    /** A tape that holds nothing has size 0, so that it need not be told apart here. */
    private boolean hasPlaces(int tape, int i, int n) {
        return i >= 0 && n >= 0 && i <= tapeSize[tape] - n;
    }

    private static long cut(long v, int sort) {
        switch (sort) {
            case BYTES:
                return (byte) v;
            case SHORTS:
                return (short) v;
            case INTS:
                return (int) v;
            case LONGS:
                return v;
            default:
                return v != 0 ? 1 : 0;
        }
    }

    /** A pair that is not whole ends the good ones, as one that is not good does. */
    private int goodPairs(int tape, int i, int n) {
        rule.look(register.today);
        rule.tally();
        rule.clear();
        int good = 0;
        for (int k = 0; k < n; k++) {
            int place = i + 2 * k;
            if (!hasPlaces(tape, place, 2)) {
                return good;
            }
            if (!rule.tells((int) tapeItems[tape][place], (int) tapeItems[tape][place + 1])) {
                return good;
            }
            good++;
        }
        return good;
    }

    private int timesAlike(int a, int b) {
        int times = 0;
        for (int m = 0; m < motionCount; m++) {
            times += motionYes[m] >> a & motionYes[m] >> b & 1;
            times += motionNo[m] >> a & motionNo[m] >> b & 1;
        }
        return times;
    }

    private int timesApart(int a, int b) {
        int times = 0;
        for (int m = 0; m < motionCount; m++) {
            times += motionYes[m] >> a & motionNo[m] >> b & 1;
            times += motionNo[m] >> a & motionYes[m] >> b & 1;
        }
        return times;
    }

    /** As bits, the person itself among them; each is asked once, and brings others. */
    private int asOneWith(int person, int n) {
        int set = 1 << person;
        int asked = 0;
        for (int round = 0; round < HOLDERS && asked != set; round++) {
            int asking = set & ~asked;
            asked = set;
            for (int a = 0; a < register.holderCount; a++) {
                if ((asking >> a & 1) == 1) {
                    set |= agreeingWith(a, n, set);
                }
            }
        }
        return set;
    }

    /** As bits; those of the set are there already, so they need not be asked. */
    private int agreeingWith(int a, int n, int set) {
        int agreeing = 0;
        for (int b = 0; b < register.holderCount; b++) {
            if ((set >> b & 1) == 0 && register.isPerson(b)
                    && timesApart(a, b) == 0 && timesAlike(a, b) >= n) {
                agreeing |= 1 << b;
            }
        }
        return agreeing;
    }

    /** A holder and the bodies of its acts; each body tells its number as it begins. */
    private static class Holder {
        final int number;
        final int family;
        private final int[] trace;

        Holder(int number, int family, int[] trace) {
            this.number = number;
            this.family = family;
            this.trace = trace;
        }

        /** The row is the face's, for whom it is kept; its last place counts all bodies, kept or not. */
        final void begin(int body) {
            int ran = trace[BODIES_KEPT];
            if (ran >= 0 && ran < BODIES_KEPT) {
                trace[ran] = body;
            }
            trace[BODIES_KEPT] = ran + 1;
        }

        final boolean isUnder(int kind) {
            switch (kind) {
                case PLAIN:
                    return true;
                case FIRM:
                    return this instanceof Firm;
                case PERSON:
                    return this instanceof Person;
                case KIN:
                    return this instanceof Kin;
                case FUND:
                    return this instanceof Fund;
                default:
                    return this instanceof Club;
            }
        }

        int doVotes(int x) {
            begin(10);
            return x + number;
        }

        int doOwns(int x) {
            begin(11);
            return doVotes(x) * 2;
        }

        int doRules(int x) {
            begin(12);
            return doOwns(x) - family;
        }
    }

    private static final class Firm extends Holder {
        Firm(int number, int[] trace) {
            super(number, 0, trace);
        }

        int doVotes(int x) {
            begin(20);
            return super.doVotes(x) ^ 6;
        }

        int doRules(int x) {
            begin(21);
            return super.doRules(x) + doVotes(1);
        }
    }

    private static class Person extends Holder {
        Person(int number, int family, int[] trace) {
            super(number, family, trace);
        }

        int doOwns(int x) {
            begin(30);
            return super.doOwns(x * 3);
        }
    }

    private static final class Kin extends Person {
        Kin(int number, int family, int[] trace) {
            super(number, family, trace);
        }

        int doVotes(int x) {
            begin(40);
            return -super.doVotes(x);
        }

        int doOwns(int x) {
            begin(41);
            return super.doOwns(x) + super.doVotes(family);
        }
    }

    private static class Fund extends Holder {
        Fund(int number, int[] trace) {
            super(number, 0, trace);
        }

        int doRules(int x) {
            begin(50);
            return doOwns(x) - super.doRules(x);
        }
    }

    private static final class Club extends Fund {
        Club(int number, int[] trace) {
            super(number, trace);
        }

        int doVotes(int x) {
            begin(60);
            return super.doVotes(x + 4);
        }

        int doRules(int x) {
            begin(61);
            return super.doRules(x) ^ number;
        }
    }

    /** Who there is, and who held which share since when. */
    private static final class Register {
        int today;
        int holderCount;
        int firmCount;
        int rulerCount;
        int shareCount;
        private final Holder[] holders = new Holder[HOLDERS];
        final int[] kind = new int[HOLDERS];
        /** As whom a holder votes: of kin the least of the family, of others itself. */
        final int[] head = new int[HOLDERS];
        final int[] firms = new int[FIRMS];
        final int[] rulers = new int[HOLDERS];
        final int[] firm = new int[SHARES];
        final int[] parts = new int[SHARES];
        final int[] votes = new int[SHARES];
        final int[] price = new int[SHARES];
        /** On the day that was looked at last. */
        final int[] owner = new int[SHARES];
        final int[] since = new int[SHARES];
        /** A share's coming is a move too, as each sale is; the days never fall. */
        private int moveCount;
        private final int[] moveShare = new int[SHARES + SALES];
        private final int[] moveHolder = new int[SHARES + SALES];
        private final int[] moveDay = new int[SHARES + SALES];

        boolean isHolder(int i) {
            return i >= 0 && i < holderCount;
        }

        boolean isFirm(int i) {
            return isHolder(i) && kind[i] == FIRM;
        }

        boolean isPerson(int i) {
            return isHolder(i) && (kind[i] == PERSON || kind[i] == KIN);
        }

        boolean isRuler(int i) {
            return isPerson(i) && head[i] == i;
        }

        /** Of funds and clubs the shares have no votes. */
        boolean isVoteless(int i) {
            return isHolder(i) && (kind[i] == FUND || kind[i] == CLUB);
        }

        boolean isShare(int i) {
            return i >= 0 && i < shareCount;
        }

        boolean isSet(int bits) {
            return bits >>> holderCount == 0;
        }

        Holder holderAt(int i) {
            return isHolder(i) ? holders[i] : null;
        }

        int enter(int kindOf, int family, int[] trace) {
            if (holderCount >= HOLDERS || kindOf == FIRM && firmCount >= FIRMS) {
                return FULL;
            }
            int number = holderCount;
            holders[number] = made(kindOf, number, family, trace);
            kind[number] = kindOf;
            head[number] = kindOf == KIN ? headOf(family, number) : number;
            holderCount++;
            if (kindOf == FIRM) {
                firms[firmCount] = number;
                firmCount++;
            }
            if (isRuler(number)) {
                rulers[rulerCount] = number;
                rulerCount++;
            }
            return number;
        }

        private static Holder made(int kind, int number, int family, int[] trace) {
            switch (kind) {
                case FIRM:
                    return new Firm(number, trace);
                case PERSON:
                    return new Person(number, 0, trace);
                case KIN:
                    return new Kin(number, family, trace);
                case FUND:
                    return new Fund(number, trace);
                case CLUB:
                    return new Club(number, trace);
                default:
                    return new Holder(number, 0, trace);
            }
        }

        private int headOf(int family, int newcomer) {
            for (int i = 0; i < newcomer; i++) {
                if (kind[i] == KIN && holders[i] != null && holders[i].family == family) {
                    return i;
                }
            }
            return newcomer;
        }

        int partsIn(int ofFirm) {
            int sum = 0;
            for (int s = 0; s < shareCount; s++) {
                sum += firm[s] == ofFirm ? parts[s] : 0;
            }
            return sum;
        }

        int issue(int ofFirm, int holder, int partsOf, int votesOf) {
            if (shareCount >= SHARES) {
                return FULL;
            }
            int number = shareCount;
            firm[number] = ofFirm;
            parts[number] = partsOf;
            votes[number] = votesOf;
            shareCount++;
            move(number, holder);
            return number;
        }

        void move(int share, int holder) {
            if (moveCount < SHARES + SALES) {
                moveShare[moveCount] = share;
                moveHolder[moveCount] = holder;
                moveDay[moveCount] = today;
                moveCount++;
            }
        }

        int sales() {
            return moveCount - shareCount;
        }

        /** The days of moves never fall, so the last move up to a day tells whose a share is then. */
        void lookAt(int day) {
            Arrays.fill(owner, NOBODY);
            Arrays.fill(since, NOBODY);
            for (int m = 0; m < moveCount && moveDay[m] <= day; m++) {
                owner[moveShare[m]] = moveHolder[m];
                since[moveShare[m]] = moveDay[m];
            }
        }

        int priceOf(long set) {
            int sum = 0;
            for (int s = 0; s < shareCount; s++) {
                sum += (set >> s & 1) == 1 ? price[s] : 0;
            }
            return sum;
        }
    }

    /** Texts that tell what a motion needs; a clause is told by its text and its place in that. */
    private static final class Charters {
        private static final int TEXTS = 20, TEXT_MOST = 100, CLAUSES = 6;
        private static final int DIGITS = 3, NEST_MOST = 4;
        /** The letters of the facts that a test may ask for, in the order in which these are told. */
        private static final String LETTERS = "khdpv", RELATIONS = "<=>";
        private static final int FACTS = 5;
        /** What stands in the code beside the tests, which are 0 and more. */
        private static final int AND = -1, OR = -2, NOT = -3;
        private static final int RELATION_STEP = 1000, LETTER_STEP = 3000;

        int count;
        int length;
        private final byte[] text = new byte[TEXT_MOST];
        private int at;
        private final int[] firmOf = new int[TEXTS];
        private final int[] dayOf = new int[TEXTS];
        private final int[] clauseCount = new int[TEXTS];
        private final int[] word = new int[TEXTS * CLAUSES];
        /** The numbers of a clause; of sleep, where its code begins and ends. */
        private final int[] first = new int[TEXTS * CLAUSES];
        private final int[] second = new int[TEXTS * CLAUSES];
        /** Tests, each operator behind its operands: never more of them than bytes in the text. */
        private final int[] code = new int[TEXTS * TEXT_MOST];
        private int codeEnd;

        void append(byte b) {
            if (length < TEXT_MOST) {
                text[length] = b;
                length++;
            }
        }

        /** The fault, or NONE. A faulty text is gone, too; the next one is read in its place. */
        int parse() {
            at = 0;
            codeEnd = count * TEXT_MOST;
            boolean fits = true;
            for (int k = 0; k < CLAUSES && fits; k++) {
                fits = readClause(count * CLAUSES + k);
                if (fits && at >= length) {
                    clauseCount[count] = k + 1;
                    length = 0;
                    return NONE;
                }
                fits = fits && k < CLAUSES - 1 && takes(';');
            }
            length = 0;
            return at;
        }

        /** Apart from reading, for only a text without a fault is a charter. */
        int enact(int firm, int day) {
            firmOf[count] = firm;
            dayOf[count] = day;
            count++;
            return count - 1;
        }

        // Each of the readers below stops at the first byte that fits nothing, so that it is the fault.

        private boolean readClause(int c) {
            int w = readWord();
            if (w < 0 || !takes(' ')) {
                return false;
            }
            word[c] = w;
            if (w == SLEEP) {
                first[c] = codeEnd;
                boolean read = readAny(0);
                second[c] = codeEnd;
                return read;
            }
            first[c] = readNumber(0);
            if (first[c] < 0 || w == MOST || w == GOLD) {
                return first[c] >= 0;
            }
            if (!takes(' ')) {
                return false;
            }
            second[c] = readNumber(w == NEED ? 1 : 0);
            return second[c] >= 0;
        }

        private static String nameOf(int w) {
            switch (w) {
                case NEED:
                    return "need";
                case MOST:
                    return "most";
                case OLD:
                    return "old";
                case GOLD:
                    return "gold";
                default:
                    return "sleep";
            }
        }

        /** The words differ in their first letters, so that tells which one must follow. */
        private int readWord() {
            for (int w = 0; w < WORDS; w++) {
                String name = nameOf(w);
                if (at < length && text[at] == name.charAt(0)) {
                    return takesAll(name) ? w : NONE;
                }
            }
            return NONE;
        }

        private boolean takesAll(String name) {
            for (int i = 0; i < name.length(); i++) {
                if (!takes(name.charAt(i))) {
                    return false;
                }
            }
            return true;
        }

        private boolean takes(int sign) {
            if (at >= length || text[at] != sign) {
                return false;
            }
            at++;
            return true;
        }

        private int takesOneOf(String signs) {
            for (int i = 0; i < signs.length(); i++) {
                if (at < length && text[at] == signs.charAt(i)) {
                    at++;
                    return i;
                }
            }
            return NONE;
        }

        /** A number that is not below the least one, which is 0 or 1; NONE at a fault. */
        private int readNumber(int least) {
            int value = 0;
            int digits = 0;
            while (digits < DIGITS && at < length && text[at] >= '0' && text[at] <= '9') {
                value = value * 10 + text[at] - '0';
                digits++;
                at++;
            }
            if (digits == 0) {
                return NONE;
            }
            if (value < least) {
                // A further digit could have mended it, unless the last one was the last allowed.
                at -= digits == DIGITS ? 1 : 0;
                return NONE;
            }
            return value;
        }

        private boolean readAny(int depth) {
            if (!readEvery(depth)) {
                return false;
            }
            for (int i = 0; i < TEXT_MOST && takes('|'); i++) {
                if (!readEvery(depth)) {
                    return false;
                }
                put(OR);
            }
            return true;
        }

        private boolean readEvery(int depth) {
            if (!readOne(depth)) {
                return false;
            }
            for (int i = 0; i < TEXT_MOST && takes('&'); i++) {
                if (!readOne(depth)) {
                    return false;
                }
                put(AND);
            }
            return true;
        }

        private boolean readOne(int depth) {
            if (depth < NEST_MOST && takes('!')) {
                return readNot(depth + 1);
            }
            if (depth < NEST_MOST && takes('(')) {
                return readAny(depth + 1) && takes(')');
            }
            return readTest();
        }

        private boolean readNot(int depth) {
            if (!readOne(depth)) {
                return false;
            }
            put(NOT);
            return true;
        }

        private boolean readTest() {
            int letter = takesOneOf(LETTERS);
            int relation = letter < 0 ? NONE : takesOneOf(RELATIONS);
            int number = relation < 0 ? NONE : readNumber(0);
            if (number < 0) {
                return false;
            }
            put(letter * LETTER_STEP + relation * RELATION_STEP + number);
            return true;
        }

        private void put(int op) {
            if (codeEnd < TEXTS * TEXT_MOST) {
                code[codeEnd] = op;
                codeEnd++;
            }
        }

        /** The clause in force for a word, counted over all texts, or NONE. */
        int inForce(int firm, int w, int day) {
            int best = NONE;
            int bestDay = NONE;
            for (int c = 0; c < count; c++) {
                if (firmOf[c] == firm && dayOf[c] <= day && dayOf[c] >= bestDay) {
                    int clause = lastOf(c, w);
                    if (clause >= 0) {
                        best = clause;
                        bestDay = dayOf[c];
                    }
                }
            }
            return best;
        }

        private int lastOf(int c, int w) {
            for (int k = clauseCount[c] - 1; k >= 0; k--) {
                if (word[c * CLAUSES + k] == w) {
                    return c * CLAUSES + k;
                }
            }
            return NONE;
        }

        /** The first number of a clause, or what holds for a word without any. */
        int firstOf(int clause, int w) {
            if (clause >= 0) {
                return first[clause];
            }
            switch (w) {
                case NEED:
                    return 1;
                case GOLD:
                    return NOBODY;
                default:
                    return 999;
            }
        }

        int secondOf(int clause, int w) {
            if (clause >= 0) {
                return second[clause];
            }
            return w == NEED ? 2 : 1;
        }

        int told(int clause, int w) {
            int n = firstOf(clause, w);
            return w == NEED || w == OLD ? 1000 * n + secondOf(clause, w) : n;
        }

        /**
         * The facts stand in the order of the letters. Nesting is bounded, so the bits of a number are
         * stack enough.
         */
        boolean holds(int clause, int[] facts) {
            int stack = 0;
            for (int i = first[clause]; i < second[clause]; i++) {
                int op = code[i];
                if (op >= 0) {
                    int fact = facts[op / LETTER_STEP];
                    int number = op % RELATION_STEP;
                    int relation = op % LETTER_STEP / RELATION_STEP;
                    boolean passes = relation == 0 ? fact < number : relation == 1 ? fact == number : fact > number;
                    stack = stack << 1 | (passes ? 1 : 0);
                } else if (op == NOT) {
                    stack ^= 1;
                } else {
                    int top = stack & 1;
                    stack >>= 1;
                    stack = op == OR ? stack | top : stack & (top | ~1);
                }
            }
            return (stack & 1) == 1;
        }
    }

    /** Votes on a day, with the shares as they were then or as a caller supposes, and who rules by them. */
    private static final class Rule {
        private final Register register;
        private final Charters charters;
        private int day;
        final int[][] clause = new int[HOLDERS][WORDS];
        private final int[] owner = new int[SHARES];
        private final int[] weight = new int[SHARES];
        private final int[] facts = new int[Charters.FACTS];
        final int[][] votes = new int[HOLDERS][HOLDERS];
        /** Who must say yes in a firm; NOBODY if the number told is of none. */
        final int[] gold = new int[HOLDERS];
        /** The greatest number of votes that is too few in a firm. */
        final int[] tooFew = new int[HOLDERS];
        /** As whom each holder votes: of a firm its ruler, or NOBODY. */
        final int[] block = new int[HOLDERS];
        final int[][] blockVotes = new int[HOLDERS][HOLDERS];
        final int[] steps = new int[FIRMS];
        int stepCount;

        Rule(Register register, Charters charters) {
            this.register = register;
            this.charters = charters;
        }

        /** The clauses in force are found once here, for searches weigh shares by them many times. */
        void look(int onDay) {
            day = onDay;
            for (int a = 0; a < register.firmCount; a++) {
                int firm = register.firms[a];
                for (int w = 0; w < WORDS; w++) {
                    clause[firm][w] = charters.inForce(firm, w, day);
                }
                int told = charters.firstOf(clause[firm][GOLD], GOLD);
                gold[firm] = register.isHolder(told) ? told : NOBODY;
            }
            register.lookAt(day);
            for (int s = 0; s < register.shareCount; s++) {
                restore(s);
            }
        }

        void restore(int s) {
            owner[s] = register.owner[s];
            weight[s] = weigh(s, owner[s], register.since[s]);
        }

        /** As if a share had gone to a holder, or to NOBODY, on the day itself. */
        void suppose(int s, int holder) {
            owner[s] = holder;
            weight[s] = weigh(s, holder, day);
        }

        private int weigh(int s, int holder, int since) {
            int firm = register.firm[s];
            if (holder < 0 || holder == firm || register.isVoteless(holder)) {
                return 0;
            }
            if (sleeps(firm, s, holder, day - since)) {
                return 0;
            }
            int old = clause[firm][OLD];
            boolean isOld = day - since >= charters.firstOf(old, OLD);
            return register.votes[s] * (isOld ? charters.secondOf(old, OLD) : 1);
        }

        private boolean sleeps(int firm, int s, int holder, int days) {
            int sleep = clause[firm][SLEEP];
            if (sleep < 0) {
                return false;
            }
            facts[0] = register.kind[holder];
            facts[1] = holder;
            facts[2] = days;
            facts[3] = register.parts[s];
            facts[4] = register.votes[s];
            return charters.holds(sleep, facts);
        }

        int sleepsNow(int firm, int s) {
            int holder = register.owner[s];
            return holder >= 0 && sleeps(firm, s, holder, day - register.since[s]) ? 1 : 0;
        }

        /** Apart from look(), for a caller may suppose other owners in between. */
        void tally() {
            for (int a = 0; a < register.firmCount; a++) {
                Arrays.fill(votes[register.firms[a]], 0);
            }
            for (int s = 0; s < register.shareCount; s++) {
                if (owner[s] >= 0) {
                    votes[register.firm[s]][owner[s]] += weight[s];
                }
            }
            for (int a = 0; a < register.firmCount; a++) {
                bound(register.firms[a]);
            }
        }

        private void bound(int firm) {
            int most = charters.firstOf(clause[firm][MOST], MOST);
            int all = 0;
            for (int h = 0; h < register.holderCount; h++) {
                votes[firm][h] = Math.min(votes[firm][h], most);
                all += votes[firm][h];
            }
            int need = clause[firm][NEED];
            int below = charters.secondOf(need, NEED);
            tooFew[firm] = below > 0 ? charters.firstOf(need, NEED) * all / below : 0;
        }

        boolean carriedBySet(int firm, int set) {
            int sum = 0;
            for (int h = 0; h < register.holderCount; h++) {
                sum += (set >> h & 1) == 1 ? votes[firm][h] : 0;
            }
            return sum > tooFew[firm] && (gold[firm] < 0 || (set >> gold[firm] & 1) == 1);
        }

        boolean carriedByGroup(int firm, int ruler) {
            return blockVotes[firm][ruler] > tooFew[firm]
                    && (gold[firm] < 0 || block[gold[firm]] == ruler);
        }

        /** Nobody rules: each votes as its head, and firms as nobody. */
        void clear() {
            stepCount = 0;
            for (int h = 0; h < register.holderCount; h++) {
                block[h] = register.isFirm(h) ? NOBODY : register.head[h];
            }
            for (int a = 0; a < register.firmCount; a++) {
                int firm = register.firms[a];
                Arrays.fill(blockVotes[firm], 0);
                for (int h = 0; h < register.holderCount; h++) {
                    if (block[h] >= 0) {
                        blockVotes[firm][block[h]] += votes[firm][h];
                    }
                }
            }
        }

        /** The group gains the firm's votes alone, so its sums need not be made anew. */
        private void crown(int firm, int ruler) {
            block[firm] = ruler;
            for (int a = 0; a < register.firmCount; a++) {
                int other = register.firms[a];
                blockVotes[other][ruler] += votes[other][firm];
            }
            if (stepCount < FIRMS) {
                steps[stepCount] = firm;
                stepCount++;
            }
        }

        /** A good pair of a proof counts for the pairs behind it. */
        boolean tells(int firm, int ruler) {
            if (!register.isFirm(firm) || !register.isRuler(ruler)) {
                return false;
            }
            if (block[firm] >= 0 || !carriedByGroup(firm, ruler)) {
                return false;
            }
            crown(firm, ruler);
            return true;
        }

        /** Each round but the last brings a ruler, so there is at most one round more than firms. */
        void least() {
            tally();
            clear();
            boolean brought = true;
            for (int round = 0; round <= FIRMS && brought; round++) {
                brought = crownsInRound();
            }
        }

        private boolean crownsInRound() {
            boolean brought = false;
            for (int a = 0; a < register.firmCount; a++) {
                int firm = register.firms[a];
                int ruler = block[firm] < 0 ? leastRuler(firm) : NOBODY;
                if (ruler >= 0) {
                    crown(firm, ruler);
                    brought = true;
                }
            }
            return brought;
        }

        private int leastRuler(int firm) {
            for (int b = 0; b < register.rulerCount; b++) {
                if (carriedByGroup(firm, register.rulers[b])) {
                    return register.rulers[b];
                }
            }
            return NOBODY;
        }

        /** A firm without a ruler votes alone. */
        int voice(int holder) {
            return block[holder] >= 0 ? block[holder] : holder;
        }
    }

    /** What must be looked for among many: rows of rulers, sets of shares, ways to vote. */
    private static final class Search {
        private static final int PICKED_MOST = 8;
        /** More than all shares together can cost. */
        private static final int BEYOND_PRICE = SHARES * PRICE_MOST + 1;

        private final Register register;
        private final Rule rule;
        /** The shares that a search tries, by numbers. */
        private final int[] picked = new int[PICKED_MOST];
        private int pickedCount;
        /** For a firm and a ruler, by their places: a bit for each set of firms with which it carries. */
        private final int[][] carrying = new int[FIRMS_OF_ALL][RULERS_OF_ALL];
        /** A row of rulers: for each firm 0, or 1 and more for a ruler by its place. */
        private final int[] row = new int[FIRMS_OF_ALL];
        private final int[] ruled = new int[RULERS_OF_ALL + 1];
        private final int[] blockSum = new int[HOLDERS];
        private final int[] before = new int[HOLDERS];
        /** The blocks beside the one that is asked for, and what all from each one on have. */
        private final int[] other = new int[HOLDERS];
        private final int[] rest = new int[HOLDERS + 1];
        private int otherCount;

        Search(Register register, Rule rule) {
            this.register = register;
            this.rule = rule;
        }

        /** Of the i-th rule that fits the ruler of a firm, or how many fit (i -1); NONE: no i-th. */
        int fitting(int i, int firm) {
            listCarrying();
            int rows = 1;
            for (int a = 0; a < register.firmCount; a++) {
                rows *= register.rulerCount + 1;
            }
            int seen = 0;
            for (int r = 0; r < rows; r++) {
                setRow(r);
                if (rowFits()) {
                    if (seen == i) {
                        return rulerInRow(firm);
                    }
                    seen++;
                }
            }
            return i == -1 ? seen : NONE;
        }

        private void listCarrying() {
            rule.tally();
            rule.clear();
            for (int a = 0; a < register.firmCount && a < FIRMS_OF_ALL; a++) {
                for (int b = 0; b < register.rulerCount && b < RULERS_OF_ALL; b++) {
                    carrying[a][b] = setsWithWhich(register.firms[a], register.rulers[b]);
                }
            }
        }

        private int setsWithWhich(int firm, int ruler) {
            int gold = rule.gold[firm];
            boolean goldIn = gold < 0 || rule.block[gold] == ruler;
            int bits = 0;
            for (int set = 0; set < 1 << register.firmCount; set++) {
                int sum = rule.blockVotes[firm][ruler];
                boolean agreed = goldIn;
                for (int a = 0; a < register.firmCount; a++) {
                    if ((set >> a & 1) == 1) {
                        sum += rule.votes[firm][register.firms[a]];
                        agreed = agreed || register.firms[a] == gold;
                    }
                }
                bits |= sum > rule.tooFew[firm] && agreed ? 1 << set : 0;
            }
            return bits;
        }

        /** The row by its number in order: the first firm's ruler weighs most. */
        private void setRow(int number) {
            int left = number;
            Arrays.fill(ruled, 0);
            for (int a = Math.min(register.firmCount, FIRMS_OF_ALL) - 1; a >= 0; a--) {
                row[a] = left % (Math.min(register.rulerCount, RULERS_OF_ALL) + 1);
                left /= Math.min(register.rulerCount, RULERS_OF_ALL) + 1;
                ruled[row[a]] |= 1 << a;
            }
        }

        private boolean rowFits() {
            for (int a = 0; a < register.firmCount && a < FIRMS_OF_ALL; a++) {
                if (row[a] > 0 ? !carriesInRow(a, row[a] - 1) : isCarriedInRow(a)) {
                    return false;
                }
            }
            return true;
        }

        private boolean isCarriedInRow(int a) {
            for (int b = 0; b < register.rulerCount && b < RULERS_OF_ALL; b++) {
                if (carriesInRow(a, b)) {
                    return true;
                }
            }
            return false;
        }

        private boolean carriesInRow(int a, int b) {
            return (carrying[a][b] >> ruled[b + 1] & 1) == 1;
        }

        private int rulerInRow(int firm) {
            for (int a = 0; a < register.firmCount && a < FIRMS_OF_ALL; a++) {
                if (register.firms[a] == firm && row[a] > 0) {
                    return register.rulers[row[a] - 1];
                }
            }
            return NOBODY;
        }

        int turns(int firm, int holder) {
            rule.look(register.today);
            rule.least();
            int mine = rule.voice(holder);
            int golden = rule.gold[firm] < 0 ? 0 : 1 << rule.voice(rule.gold[firm]);
            int there = sumBlocks(firm) | golden;
            if ((there >> mine & 1) == 0) {
                return 0;
            }
            listOthers(there & ~(1 << mine) & ~golden);
            int tooFew = rule.tooFew[firm];
            if (golden == 1 << mine) {
                return ways(other, rest, 0, otherCount, tooFew + 1 - blockSum[mine], rest[0]);
            }
            // Without a yes of the golden block nothing carries, so it says yes in all ways that count.
            tooFew -= golden == 0 ? 0 : blockSum[rule.voice(rule.gold[firm])];
            return ways(other, rest, 0, otherCount, tooFew + 1 - blockSum[mine], tooFew);
        }

        /** The blocks that have votes in a firm, as bits. */
        private int sumBlocks(int firm) {
            Arrays.fill(blockSum, 0);
            int there = 0;
            for (int h = 0; h < register.holderCount; h++) {
                int voice = rule.voice(h);
                blockSum[voice] += rule.votes[firm][h];
                there |= rule.votes[firm][h] > 0 ? 1 << voice : 0;
            }
            return there;
        }

        private void listOthers(int blocks) {
            otherCount = 0;
            for (int b = 0; b < HOLDERS; b++) {
                if ((blocks >> b & 1) == 1) {
                    other[otherCount] = blockSum[b];
                    otherCount++;
                }
            }
            rest[otherCount] = 0;
            for (int k = otherCount - 1; k >= 0; k--) {
                rest[k] = rest[k + 1] + other[k];
            }
        }

        /**
         * How many sets of the blocks from k to the end have low to high votes together. All that are
         * left to choose are counted at once when none of them can leave these bounds.
         */
        private static int ways(int[] votes, int[] rest, int k, int end, int low, int high) {
            if (k < 0 || k > end || end > HOLDERS || high < 0 || low > rest[k]) {
                return 0;
            }
            if (low <= 0 && high >= rest[k]) {
                return 1 << (end - k);
            }
            if (k == end) {
                return 0;
            }
            return ways(votes, rest, k + 1, end, low, high)
                    + ways(votes, rest, k + 1, end, low - votes[k], high - votes[k]);
        }

        /** Sets are tried in order, so of several alike the first is the least; the empty one is of them. */
        long cheapest(int ruler, int firm) {
            rule.look(register.today);
            pickForSale(ruler);
            int best = NONE;
            int bestPrice = BEYOND_PRICE;
            for (int set = 0; set < 1 << pickedCount; set++) {
                int price = register.priceOf(sharesOf(set));
                boolean fewer = best >= 0 && Integer.bitCount(set) < Integer.bitCount(best);
                if (price < bestPrice || price == bestPrice && fewer) {
                    if (ruledAfter(set, ruler, firm) == ruler) {
                        best = set;
                        bestPrice = price;
                    }
                }
            }
            return best < 0 ? NOBODY : sharesOf(best);
        }

        private void pickForSale(int ruler) {
            pickedCount = 0;
            for (int s = 0; s < register.shareCount && pickedCount < PICKED_MOST; s++) {
                if (register.price[s] > 0 && register.owner[s] != ruler) {
                    picked[pickedCount] = s;
                    pickedCount++;
                }
            }
        }

        private void pickOfGroup(int ruler) {
            pickedCount = 0;
            for (int s = 0; s < register.shareCount && pickedCount < PICKED_MOST; s++) {
                if (register.owner[s] >= 0 && rule.block[register.owner[s]] == ruler) {
                    picked[pickedCount] = s;
                    pickedCount++;
                }
            }
        }

        private long sharesOf(int set) {
            long shares = 0;
            for (int k = 0; k < pickedCount; k++) {
                shares |= (set >> k & 1) == 1 ? 1L << picked[k] : 0;
            }
            return shares;
        }

        /** The ruler of a firm, if a set of the picked shares had gone to a holder, or to NOBODY. */
        private int ruledAfter(int set, int holder, int firm) {
            for (int k = 0; k < pickedCount; k++) {
                if ((set >> k & 1) == 1) {
                    rule.suppose(picked[k], holder);
                } else {
                    rule.restore(picked[k]);
                }
            }
            rule.least();
            return rule.block[firm];
        }

        int changedWithout(int share) {
            rule.look(register.today);
            rule.least();
            System.arraycopy(rule.block, 0, before, 0, HOLDERS);
            rule.suppose(share, NOBODY);
            rule.least();
            int changed = 0;
            for (int a = 0; a < register.firmCount; a++) {
                int firm = register.firms[a];
                changed |= rule.block[firm] != before[firm] ? 1 << firm : 0;
            }
            return changed;
        }

        /** Without the empty set the firm has its ruler, so that one is not tried. */
        long fewestToFree(int firm) {
            rule.look(register.today);
            rule.least();
            int ruler = rule.block[firm];
            if (ruler < 0) {
                return NO;
            }
            pickOfGroup(ruler);
            int best = NONE;
            int bestSize = PICKED_MOST + 1;
            for (int set = 1; set < 1 << pickedCount; set++) {
                if (Integer.bitCount(set) < bestSize && ruledAfter(set, NOBODY, firm) < 0) {
                    best = set;
                    bestSize = Integer.bitCount(set);
                }
            }
            return best < 0 ? NOBODY : sharesOf(best);
        }

        /** The hidden shares that are the holder's already keep their age. */
        boolean rulesHidden(int ruler, int firm, int h, int holder) {
            rule.look(register.today);
            for (int s = 0; s < register.shareCount; s++) {
                if (register.parts[s] < h && register.owner[s] != holder) {
                    rule.suppose(s, holder);
                }
            }
            rule.least();
            return rule.block[firm] == ruler;
        }
    }

    /** Where a firm's coin goes today, and the rings in which it may go. */
    private static final class Flow {
        private static final int CUTS_MOST = 12;

        private final Register register;
        /** Of a firm, to a holder. */
        private final int[][] parts = new int[HOLDERS][HOLDERS];
        private final int[] unowned = new int[HOLDERS];
        /** Of a firm, the firms in which it has shares, as bits. */
        private final int[] has = new int[HOLDERS];
        /** The ring that was found last. */
        final int[] path = new int[FIRMS];
        private final int[] cuts = new int[CUTS_MOST];
        /** The firms whose coin is asked for, and what must hold of them: one line a firm. */
        private final int[] order = new int[FIRMS];
        private final long[][] lines = new long[FIRMS][FIRMS + 1];
        /** The fraction that was found last. */
        long above;
        long below;

        Flow(Register register) {
            this.register = register;
        }

        private void load() {
            register.lookAt(register.today);
            for (int a = 0; a < register.firmCount; a++) {
                Arrays.fill(parts[register.firms[a]], 0);
                unowned[register.firms[a]] = WHOLE;
            }
            for (int s = 0; s < register.shareCount; s++) {
                if (register.owner[s] >= 0) {
                    parts[register.firm[s]][register.owner[s]] += register.parts[s];
                    unowned[register.firm[s]] -= register.parts[s];
                }
            }
        }

        boolean isHollow(int firm) {
            load();
            return (openFirms() >> firm & 1) == 0;
        }

        /** The firms that are not hollow, as bits. */
        private int openFirms() {
            int open = 0;
            for (int round = 0; round < FIRMS; round++) {
                for (int a = 0; a < register.firmCount; a++) {
                    int firm = register.firms[a];
                    open |= unowned[firm] > 0 || givesOut(firm, open) ? 1 << firm : 0;
                }
            }
            return open;
        }

        private boolean givesOut(int firm, int open) {
            for (int h = 0; h < register.holderCount; h++) {
                if (parts[firm][h] > 0 && (!register.isFirm(h) || (open >> h & 1) == 1)) {
                    return true;
                }
            }
            return false;
        }

        /** What comes to a hollow firm never comes back, so that only open ones have a line. */
        void unroll(int firm, int holder) {
            load();
            above = 0;
            below = 1;
            int open = openFirms();
            if ((open >> firm & 1) == 0) {
                return;
            }
            int n = putInOrder(open, firm);
            writeLines(n, holder);
            eliminate(n);
            long divisor = greatestDivisor(lines[n - 1][n], lines[n - 1][n - 1]);
            if (divisor > 0) {
                above = lines[n - 1][n] / divisor;
                below = lines[n - 1][n - 1] / divisor;
            }
        }

        /** The open firms, the one that is asked for last, so that its line is solved first. */
        private int putInOrder(int open, int asked) {
            int n = 0;
            for (int a = 0; a < register.firmCount; a++) {
                int firm = register.firms[a];
                if (firm != asked && (open >> firm & 1) == 1) {
                    order[n] = firm;
                    n++;
                }
            }
            order[n] = asked;
            return n + 1;
        }

        /** 12 of each firm's worth is what its owners bring; a hollow owner brings nothing. */
        private void writeLines(int n, int holder) {
            for (int a = 0; a < n; a++) {
                for (int b = 0; b < n; b++) {
                    lines[a][b] = (a == b ? WHOLE : 0) - parts[order[a]][order[b]];
                }
                lines[a][n] = parts[order[a]][holder];
            }
        }

        /**
         * Elimination in whole numbers (Bareiss): every division is exact, and a line's first number
         * is never 0, for each open firm loses something.
         */
        private void eliminate(int n) {
            long last = 1;
            for (int k = 0; k < n - 1; k++) {
                for (int a = k + 1; a < n; a++) {
                    for (int b = k + 1; b <= n; b++) {
                        long cross = lines[k][k] * lines[a][b] - lines[a][k] * lines[k][b];
                        lines[a][b] = last == 0 ? 0 : cross / last;
                    }
                }
                last = lines[k][k];
            }
        }

        private static long greatestDivisor(long a, long b) {
            long x = a;
            long y = b;
            for (int i = 0; i < 200 && y != 0; i++) {
                long left = x % y;
                x = y;
                y = left;
            }
            return x;
        }

        /** Sizes and firms are tried in order, so the first ring that closes is the one that is told. */
        int findRing() {
            load();
            Arrays.fill(has, 0);
            for (int a = 0; a < register.firmCount; a++) {
                for (int b = 0; b < register.firmCount; b++) {
                    int owner = register.firms[b];
                    has[owner] |= parts[register.firms[a]][owner] > 0 ? 1 << register.firms[a] : 0;
                }
            }
            for (int size = 1; size <= register.firmCount; size++) {
                for (int a = 0; a < register.firmCount; a++) {
                    path[0] = register.firms[a];
                    if (closes(has, path, 1, size)) {
                        return size;
                    }
                }
            }
            return 0;
        }

        /**
         * Whether the path so far can be made a ring of a size. As no ring of a lesser size is there,
         * no firm can come twice; the first one is the least, for rows are told from that on.
         */
        private static boolean closes(int[] has, int[] path, int told, int size) {
            if (told < 1 || told > FIRMS) {
                return false;
            }
            int last = path[told - 1];
            if (told == size) {
                return (has[last] >> path[0] & 1) == 1;
            }
            for (int next = path[0] + 1; next < HOLDERS && told < FIRMS; next++) {
                if ((has[last] >> next & 1) == 1) {
                    path[told] = next;
                    if (closes(has, path, told + 1, size)) {
                        return true;
                    }
                }
            }
            return false;
        }

        /** Sets are tried in order, so of several of a size the first is the least. */
        long fewestToBreak() {
            int cutCount = listCuts();
            int best = 0;
            int bestSize = CUTS_MOST + 1;
            for (int set = 0; set < 1 << cutCount; set++) {
                if (Integer.bitCount(set) < bestSize && !isRingWithout(set, cutCount)) {
                    best = set;
                    bestSize = Integer.bitCount(set);
                }
            }
            long shares = 0;
            for (int k = 0; k < cutCount; k++) {
                shares |= (best >> k & 1) == 1 ? 1L << cuts[k] : 0;
            }
            return shares;
        }

        private int listCuts() {
            register.lookAt(register.today);
            int cutCount = 0;
            for (int s = 0; s < register.shareCount && cutCount < CUTS_MOST; s++) {
                if (register.parts[s] > 0 && register.isFirm(register.owner[s])) {
                    cuts[cutCount] = s;
                    cutCount++;
                }
            }
            return cutCount;
        }

        /** Whether firms are left when those without a share in one that is left go, time and again. */
        private boolean isRingWithout(int set, int cutCount) {
            Arrays.fill(has, 0);
            int left = 0;
            for (int k = 0; k < cutCount; k++) {
                if ((set >> k & 1) == 0) {
                    int owner = register.owner[cuts[k]];
                    has[owner] |= 1 << register.firm[cuts[k]];
                    left |= 1 << owner;
                }
            }
            for (int round = 0; round < FIRMS; round++) {
                for (int a = 0; a < register.firmCount; a++) {
                    int firm = register.firms[a];
                    left &= (has[firm] & left) == 0 ? ~(1 << firm) : ~0;
                }
            }
            return left != 0;
        }
    }
}
