/** The edges that promises 9 to 14 name, sentence by sentence: THE TEXT, charters, votes, what carries. */
public final class EdgesOfChartersTest {
    /** Firm 0, person 1. */
    private static final String TWO = "holder(1,0) holder(2,0) ";
    /** Firm 0, person 1, and share 0 of 1 in 0: 3 parts, 20 votes. */
    private static final String ONE_SHARE = TWO + "share(0,1,3,20) ";

    private final Edges edges = new Edges("edges of charters");

    public static void main(String[] args) {
        EdgesOfChartersTest t = new EdgesOfChartersTest();
        t.feed();
        t.feedFull();
        t.charterNumbers();
        t.charterFull();
        t.charterText();
        t.faultsOfClauses();
        t.faultsOfNumbers();
        t.faultsOfTests();
        t.faultsOfNests();
        t.force();
        t.forceOfDays();
        t.forceSleeps();
        t.forceTests();
        t.why();
        t.votes();
        t.votesOld();
        t.votesMost();
        t.carry();
        t.carryNeed();
        t.carryGold();
        t.edges.end();
    }

    private void feed() {
        edges.of(9);
        edges.due("n 0 .. 4", TWO, "feed(120,0)", 0, "feed(120,1)", 1, "feed(120,2)", 3, "feed(120,3)", 6, "feed(120,4)", 10,
                "count(6)", 10);
        edges.due("BAD: below 0", TWO + "'most'", "feed(120,-1)", -2, "feed(120,MIN)", -2, "count(6)", 4);
        edges.due("BAD: above 4", TWO + "'most'", "feed(120,5)", -2, "feed(120,MAX)", -2, "count(6)", 4);
        // 67 6F 6C 64 is gold, 20 a blank, 31 a 1.
        edges.due("the n lowest bytes, the highest first", TWO, "feed(0x676F6C64,4)", 4, "feed(0x2031,2)", 6, "charter(0,0)", 0,
                "force(0,3,0,0)", 1);
        edges.due("the n lowest bytes: the others are left", TWO, "feed(0x77777767,1)", 1, "feed(0xFFFFFF6F,1)", 2,
                "feed(0x80006C64,2)", 4, "feed(0xFF203733,3)", 7, "charter(0,0)", 0, "force(0,3,0,0)", 73);
        edges.due("bytes above 127", TWO + "'most 1'", "feed(177,1)", 7, "charter(0,0)", -16);
        edges.due("bytes above 127, a number below 0", TWO + "'most 1'", "feed(-1,4)", 10, "charter(0,0)", -16);
        edges.due("come behind THE TEXT's", TWO + "'mo'", "feed(29556,2)", 4, "feed(0,0)", 4, "feed(8247,2)", 6, "charter(0,0)", 0,
                "force(0,1,0,0)", 7);
    }

    private void feedFull() {
        edges.of(9);
        edges.due("100 at most, the last", TWO + "24*feed(0,4)", "count(6)", 96, "feed(0,4)", 100, "count(6)", 100);
        edges.due("FULL: one too many", TWO + "24*feed(0,4) feed(0,1)", "feed(0,4)", -4, "count(6)", 97, "feed(0,3)", 100);
        edges.due("FULL: two and three", TWO + "24*feed(0,4) feed(0,3)", "feed(0,2)", -4, "feed(0,3)", -4, "feed(0,4)", -4,
                "count(6)", 99, "feed(0,1)", 100);
        edges.due("FULL at 100", TWO + "25*feed(0,4)", "feed(0,1)", -4, "feed(0,2)", -4, "feed(0,4)", -4, "count(6)", 100);
        edges.due("no byte comes behind a full TEXT", TWO + "25*feed(0,4)", "feed(7,0)", 100);
        edges.due("BAD ahead of FULL", TWO + "25*feed(0,4)", "feed(0,5)", -2, "feed(0,-1)", -2);
        edges.due("FULL changes nothing of THE TEXT", TWO + "'sleep k=1|k=1|k=1|k=1|k=1|k=1|k=1|k=1|k=1|k=1|k=1|k=1|k=1|k=1|k=1|k=1"
                + "|k=1|k=1|k=1|k=1|k=1|k=1;' feed(0,0)", "count(6)", 94, "feed(1836020596,4)", 98, "feed(540094516,4)", -4,
                "feed(8247,2)", 100, "charter(0,0)", 0, "force(0,1,0,0)", 7);
    }

    private void charterNumbers() {
        edges.of(10);
        edges.due("NONE: firm", TWO + "'most 7'", "charter(-1,0)", -1, "charter(2,0)", -1, "charter(MIN,0)", -1, "charter(MAX,0)", -1,
                "count(6)", 6, "count(5)", 0, "charter(0,0)", 0, "force(0,1,0,0)", 7);
        edges.due("NONE: firm, one that is no FIRM", TWO + "holder(0,0) holder(3,0) holder(4,0) holder(5,0) 'most 7'",
                "charter(1,0)", -1, "charter(2,0)", -1, "charter(3,0)", -1, "charter(4,0)", -1, "charter(5,0)", -1, "count(6)", 6);
        edges.due("DAYS 0 .. 999, the first", TWO + "'most 7'", "charter(0,0)", 0, "force(0,1,0,0)", 7);
        edges.due("DAYS 0 .. 999, the last", TWO + "'most 7'", "charter(0,999)", 0, "force(0,1,998,0)", 999, "force(0,1,999,0)", 7);
        edges.due("BAD: day", TWO + "'most 7'", "charter(0,-1)", -2, "charter(0,1000)", -2, "charter(0,MIN)", -2, "charter(0,MAX)", -2,
                "count(6)", 6, "charter(0,3)", 0, "force(0,1,2,0)", 999, "force(0,1,3,0)", 7);
        edges.due("NONE ahead of BAD", TWO + "'most 7'", "charter(1,-1)", -1, "charter(2,1000)", -1);
        edges.due("THE TEXT stays with these, a faulty one, too", TWO + "'must 7'", "charter(1,0)", -1, "charter(0,-1)", -2,
                "count(6)", 6, "charter(0,0)", -11, "count(6)", 0);
        edges.due("THE TEXT, which is empty then", TWO + "'most 7'", "charter(0,0)", 0, "count(6)", 0, "charter(0,0)", -10,
                "feed(120,1)", 1);
        edges.due("THE TEXT, which is empty then: a fault", TWO + "'most 7;'", "charter(0,0)", -17, "count(6)", 0, "count(5)", 0,
                "charter(0,0)", -10, "feed(120,1)", 1);
        edges.due("a FAULT leaves the charters", TWO + "'most 7' charter(0,0) 'most 8;most 9;'", "charter(0,0)", -24,
                "force(0,1,0,0)", 7, "why(0,1,0)", 0, "count(5)", 1);
        edges.due("THE TEXT, which is empty then: nothing of a longer one is left", TWO + "'most 7' charter(0,0) 'most'", "charter(0,0)", -14,
                "why(0,1,0)", 0, "count(5)", 1);
        edges.due("THE TEXT, which is empty then: nothing of a longer one is left, by and by", TWO + "'sleep (k=1|k=2)' charter(0,0) ",
                "feed(0x736C6565,4)", 4, "feed(0x70,1)", 5, "charter(0,0)", -15, "feed(0x736C6565,4)", 4, "feed(0x70206B,3)", 7,
                "charter(0,0)", -17, "feed(0x736C6565,4)", 4, "feed(0x7020,2)", 6, "charter(0,0)", -16);
        edges.due("a FAULT leaves nothing to the next charter", ONE_SHARE + "'most 999;' charter(0,0) 'sleep v>0' charter(0,0)",
                "force(0,4,0,0)", 1, "force(0,1,0,0)", 999, "why(0,1,0)", -5, "why(0,4,0)", 0);
        edges.due("a FAULT leaves nothing to the next charter: more clauses", ONE_SHARE + "'sleep k=2;gold 1;need 1 3;' charter(0,0) "
                + "'old 1 2' charter(0,0)", "force(0,4,0,0)", 0, "force(0,3,0,0)", -5, "force(0,0,0,0)", 1002, "force(0,2,0,0)", 1002);
        edges.due("a number after a FAULT", TWO + "'most 7' charter(0,0) 'most' charter(0,0) 'most 8'", "charter(0,0)", 1,
                "why(0,1,0)", 100);
    }

    private void charterFull() {
        edges.of(10);
        String nineteen = TWO + "19*{'most 7' charter(0,0)} 'most 8' ";
        edges.due("texts 0 .. 19, the last", nineteen, "charter(0,0)", 19, "count(5)", 20, "force(0,1,0,0)", 8, "why(0,1,0)", 1900);
        edges.due("FULL: there are 20", nineteen + "charter(0,0) 'most 9'", "charter(0,0)", -4, "count(5)", 20, "count(6)", 6,
                "force(0,1,0,0)", 8);
        edges.due("FULL ahead of a FAULT, THE TEXT stays", nineteen + "charter(0,0) 'mist'", "charter(0,0)", -4, "count(6)", 4,
                "charter(0,5)", -4);
        edges.due("FULL with an empty TEXT", nineteen + "charter(0,0)", "charter(0,0)", -4, "count(5)", 20, "count(6)", 0);
        edges.due("BAD ahead of FULL", nineteen + "charter(0,0) 'most 9'", "charter(0,-1)", -2, "charter(0,1000)", -2, "count(6)", 6);
        edges.due("NONE ahead of FULL", nineteen + "charter(0,0) 'most 9'", "charter(1,0)", -1, "charter(2,0)", -1, "count(6)", 6);
        edges.due("20 of all FIRMS", TWO + "holder(1,0) 10*{'most 7' charter(0,0) 'most 8' charter(2,0)} 'most 9'", "charter(0,0)", -4,
                "charter(2,0)", -4, "why(2,1,0)", 1900, "why(0,1,0)", 1800);
        edges.due("texts with a FAULT are not counted", TWO + "18*{'most 7' charter(0,0)} 5*{'most' charter(0,0)} 'most 8'",
                "charter(0,0)", 18, "feed(120,1)", 1, "charter(0,0)", -10, "count(5)", 19);
    }

    private void read(String words, String text, int due) {
        edges.due(words, TWO + "'" + text + "'", "charter(0,0)", due);
    }

    private static String of(int bytes, String start, String more) {
        StringBuilder s = new StringBuilder(start);
        while (s.length() < bytes) {
            s.append(more);
        }
        return s.toString();
    }

    /** THE TEXT itself: empty, full, and how many clauses. */
    private void charterText() {
        edges.of(10);
        edges.due("an empty text", TWO, "charter(0,0)", -10, "count(5)", 0);
        read("CLAUSES, 6 at most", "most 1;most 2;most 3;most 4;most 5;most 6", 0);
        read("CLAUSES, 6 at most: a seventh", "most 1;most 2;most 3;most 4;most 5;most 6;most 7", -51);
        read("CLAUSES, 6 at most: a ; behind the sixth", "most 1;most 2;most 3;most 4;most 5;most 6;", -51);
        read("with ; between: none at the end", "most 1;", -17);
        read("with ; between: none ahead", ";most 1", -10);
        read("with ; between: not two", "most 1;;most 2", -17);
        read("with ; between: no blank behind", "most 1; most 2", -17);
        read("with ; between: no blank ahead", "most 1 ;most 2", -16);
        read("with ; between: no other sign", "most 1,most 2", -16);
        read("a text of 100 bytes", of(93, "sleep k=1", "|k=1") + ";most 7", 0);
        read("a text of 99 bytes that ends too early", of(93, "sleep k=1", "|k=1") + ";most ", -109);
        read("the end of a full TEXT, if it ends too early", of(97, "sleep k=1", "|k=1") + "|k=", -110);
        read("the last byte of a full TEXT", of(97, "sleep k=1", "|k=1") + "|kk", -109);
    }

    private void faultsOfClauses() {
        edges.of(10);
        String[] words = {"need", "most", "old", "gold", "sleep"};
        for (String word : words) {
            for (int n = 0; n < word.length(); n++) {
                read("a word that ends too early", word.substring(0, n), -10 - n);
                read("a word with another letter", word.substring(0, n) + "x" + word.substring(n + 1) + " 1 2", -10 - n);
            }
            read("no blank behind the word", word, -10 - word.length());
            read("another sign behind the word", word + "s", -10 - word.length());
            read("a ; behind the word", word + ";", -10 - word.length());
            read("nothing behind the blank", word + " ", -11 - word.length());
            read("two blanks behind the word", word + "  1 2", -11 - word.length());
            read("a blank ahead of the word", " " + word + " 1 2", -10);
            read("great letters", word.toUpperCase() + " 1 2", -10);
            read("the second clause", "most 1;" + word, -17 - word.length());
        }
        read("need n d", "need 1 2", 0);
        read("need without d", "need 1", -16);
        read("need with a blank, without d", "need 1 ", -17);
        read("need with two blanks", "need 1  2", -17);
        read("need with a third number", "need 1 2 3", -18);
        read("need with ; ahead of d", "need 1;", -16);
        read("old n m", "old 1 2", 0);
        read("old without m", "old 1", -15);
        read("old with ; ahead of m", "old 1;", -15);
        read("old with a third number", "old 1 2 3", -17);
        read("most n", "most 1", 0);
        read("most with a second number", "most 1 2", -16);
        read("gold n", "gold 1", 0);
        read("gold with a second number", "gold 1 2", -16);
        read("sleep E", "sleep k=1", 0);
        read("sleep without E", "sleep 1", -16);
    }

    private void faultsOfNumbers() {
        edges.of(10);
        String[] ahead = {"need ", "need 1 ", "most ", "old ", "old 1 ", "gold ", "sleep k="};
        String[] behind = {" 1", "", "", " 1", "", "", ""};
        for (int k = 0; k < ahead.length; k++) {
            int at = -10 - ahead[k].length();
            read("1 to 3 digits: one", ahead[k] + "7" + behind[k], 0);
            read("1 to 3 digits: two", ahead[k] + "70" + behind[k], 0);
            read("1 to 3 digits: three", ahead[k] + "999" + behind[k], 0);
            read("1 to 3 digits: zeros ahead", ahead[k] + "007" + behind[k], 0);
            read("1 to 3 digits: four", ahead[k] + "1000" + behind[k], at - 3);
            read("1 to 3 digits: four with a zero ahead", ahead[k] + "0001" + behind[k], k == 1 ? at - 2 : at - 3);
            read("1 to 3 digits: none", ahead[k] + "x", at);
            read("a number below 0", ahead[k] + "-1", at);
            read("the sign ahead of 0", ahead[k] + "/", at);
            read("the sign behind 9", ahead[k] + ":", at);
            read("the sign behind 9, behind a digit", ahead[k] + "1:", at - 1);
        }
        for (String n : new String[] {"0", "00", "000"}) {
            read("n, m may be 0", "most " + n, 0);
            read("n, m may be 0", "gold " + n, 0);
            read("n, m may be 0", "old " + n + " " + n, 0);
            read("n, m may be 0", "need " + n + " 1", 0);
            read("a test's number may be 0", "sleep v<" + n, 0);
        }
        read("d is not 0", "need 1 0", -18);
        read("d is not 0: two digits", "need 1 00", -19);
        read("d is not 0: three digits", "need 1 000", -19);
        read("d is not 0: four digits", "need 1 0001", -19);
        read("d is not 0: another clause behind", "need 1 0;most 1", -18);
        read("d is not 0: another clause behind two", "need 1 00;most 1", -19);
        read("d is not 0: a further digit", "need 1 01", 0);
        read("d is not 0: two further digits", "need 1 001", 0);
        read("d is not 0: a further digit, and 0", "need 1 010", 0);
        read("d, the least", "need 1 1", 0);
        read("d, the greatest", "need 1 999", 0);
    }

    private void faultsOfTests() {
        edges.of(10);
        for (char letter : "khdpv".toCharArray()) {
            for (char relation : "<=>".toCharArray()) {
                read("a TEST", "sleep " + letter + relation + "1", 0);
            }
            read("a letter, then its end", "sleep " + letter, -17);
            read("a letter, then a number", "sleep " + letter + "1", -17);
            read("a letter, then another", "sleep " + letter + letter, -17);
            read("a great letter", "sleep " + Character.toUpperCase(letter) + "=1", -16);
        }
        for (char other : "acijlquwxyz0@?".toCharArray()) {
            read("another letter", "sleep " + other + "=1", -16);
        }
        for (char other : ";:?!~ 1".toCharArray()) {
            read("another relation", "sleep k" + other + "1", -17);
        }
        read("two relations", "sleep k<=1", -18);
        read("a blank ahead of the relation", "sleep k =1", -17);
        read("a blank behind the relation", "sleep k= 1", -18);
        read("T|E ends too early", "sleep k=1|", -20);
        read("F&T ends too early", "sleep k=1&", -20);
        read("two |", "sleep k=1||k=2", -20);
        read("two &", "sleep k=1&&k=2", -20);
        read("| and &", "sleep k=1|&k=2", -20);
        read("| ahead", "sleep |k=1", -16);
        read("& ahead", "sleep &k=1", -16);
        read("a blank ahead of |", "sleep k=1 |k=2", -19);
        read("a blank behind |", "sleep k=1| k=2", -20);
        read("no sign between tests", "sleep k=1k=2", -19);
        read("( not closed", "sleep (k=1", -20);
        read("( closed twice", "sleep (k=1))", -21);
        read(") without (", "sleep k=1)", -19);
        read("nothing in ( )", "sleep ()", -17);
        read("nothing behind (", "sleep (", -17);
        read("nothing behind !", "sleep !", -17);
        read("! behind a letter", "sleep k!=1", -17);
        read("; in ( )", "sleep (k=1;most 1", -20);
        read("a clause behind a test", "sleep k=1;most 1", 0);
        read("a clause behind a )", "sleep (k=1);most 1", 0);
    }

    private void faultsOfNests() {
        edges.of(10);
        read("( within 3 others", "sleep ((((k=1))))", 0);
        read("a ( within 4 others is none", "sleep (((((k=1)))))", -20);
        read("! within 3 others", "sleep !!!!k=1", 0);
        read("a ! within 4 others is none", "sleep !!!!!k=1", -20);
        read("! within 3 (", "sleep (((!k=1)))", 0);
        read("a ! within 4 ( is none", "sleep ((((!k=1))))", -20);
        read("( within 3 !", "sleep !!!(k=1)", 0);
        read("a ( within 4 ! is none", "sleep !!!!(k=1)", -20);
        read("( and ! by turns", "sleep !(!(k=1))", 0);
        read("( and ! by turns, a fifth", "sleep !(!(!k=1))", -20);
        read("( and ! by turns, a fifth", "sleep (!(!(k=1)))", -20);
        read("within 4 others behind a |", "sleep ((((k=1|(k=2)))))", -24);
        read("within 4 others behind a &", "sleep ((((k=1&!k=2))))", -24);
        read("within 3 others behind one within 4", "sleep ((((k=1))&((k=2))))", 0);
        read("within none, behind one within 3", "sleep ((((k=1))))|((((k=2))))", 0);
        read("! of a whole", "sleep !((k=1)|!(k=2))&!!k=3", 0);
        read("! of one does not hold for the next", "sleep !!!!k=1&!!!!k=2|!!!!k=3", 0);
    }

    private void force() {
        edges.of(11);
        edges.due("without any: need 1 2, most 999, old 999 1, nobody gold", ONE_SHARE, "force(0,0,0,0)", 1002, "force(0,1,0,0)", 999,
                "force(0,2,0,0)", 999001, "force(0,3,0,0)", -5);
        edges.due("without any: no votes sleep", ONE_SHARE, "force(0,4,0,0)", 0);
        edges.due("NONE: firm", ONE_SHARE, "force(-1,0,0,0)", -1, "force(1,0,0,0)", -1, "force(2,0,0,0)", -1, "force(MIN,0,0,0)", -1,
                "force(MAX,4,0,0)", -1);
        edges.due("NONE: word", ONE_SHARE, "force(0,-1,0,0)", -1, "force(0,5,0,0)", -1, "force(0,MIN,0,0)", -1, "force(0,MAX,0,0)", -1);
        edges.due("NONE: share (of 4)", ONE_SHARE, "force(0,4,0,-1)", -1, "force(0,4,0,1)", -1, "force(0,4,0,MIN)", -1,
                "force(0,4,0,MAX)", -1);
        edges.due("NONE: share of 4 alone", ONE_SHARE, "force(0,0,0,-1)", 1002, "force(0,1,0,1)", 999, "force(0,2,0,MIN)", 999001,
                "force(0,3,0,MAX)", -5);
        edges.due("BAD: day", ONE_SHARE, "force(0,0,-1,0)", -2, "force(0,1,1000,0)", -2, "force(0,2,MIN,0)", -2, "force(0,3,MAX,0)", -2,
                "force(0,4,-1,0)", -2, "force(0,4,1000,0)", -2);
        edges.due("DAYS 0 .. 999", ONE_SHARE, "force(0,0,0,0)", 1002, "force(0,0,999,0)", 1002, "force(0,4,999,0)", 0);
        edges.due("NONE ahead of BAD", ONE_SHARE, "force(1,0,-1,0)", -1, "force(0,5,1000,0)", -1, "force(0,4,-1,1)", -1);
        edges.due("1000 n and d, the least and the greatest", TWO + "'need 0 1' charter(0,0) 'need 999 999' charter(0,1)",
                "force(0,0,0,0)", 1, "force(0,0,1,0)", 999999);
        edges.due("most, the least and the greatest", TWO + "'most 0' charter(0,0) 'most 999' charter(0,1) 'most 998' charter(0,2)",
                "force(0,1,0,0)", 0, "force(0,1,1,0)", 999, "force(0,1,2,0)", 998);
        edges.due("1000 n and m, the least and the greatest", TWO + "'old 0 0' charter(0,0) 'old 999 999' charter(0,1)",
                "force(0,2,0,0)", 0, "force(0,2,1,0)", 999999);
        edges.due("gold: its n, also if there is no such HOLDER now", TWO + "'gold 0' charter(0,0) 'gold 2' charter(0,1) "
                + "'gold 999' charter(0,2)", "force(0,3,0,0)", 0, "force(0,3,1,0)", 2, "force(0,3,2,0)", 999);
    }

    private void forceOfDays() {
        edges.of(11);
        edges.due("in force from a DAY on", TWO + "'most 7' charter(0,5)", "force(0,1,0,0)", 999, "force(0,1,4,0)", 999,
                "force(0,1,5,0)", 7, "force(0,1,6,0)", 7, "force(0,1,999,0)", 7);
        edges.due("of TODAY it does not matter", TWO + "pass(9) 'most 7' charter(0,5)", "force(0,1,4,0)", 999, "force(0,1,5,0)", 7);
        edges.due("that of the greatest DAY", TWO + "'most 7' charter(0,5) 'most 8' charter(0,4)", "force(0,1,3,0)", 999,
                "force(0,1,4,0)", 8, "force(0,1,5,0)", 7, "force(0,1,9,0)", 7);
        edges.due("of several the latest", TWO + "'most 7' charter(0,5) 'most 8' charter(0,5) 'most 9' charter(0,4)",
                "force(0,1,5,0)", 8, "why(0,1,5)", 100);
        edges.due("its last such CLAUSE", TWO + "'most 1;gold 2;most 3;gold 4;most 5;gold 6' charter(0,0)", "force(0,1,0,0)", 5,
                "force(0,3,0,0)", 6, "why(0,1,0)", 4, "why(0,3,0)", 5);
        edges.due("its last such CLAUSE: the first alone", TWO + "'most 1;gold 2' charter(0,0)", "force(0,1,0,0)", 1, "why(0,1,0)", 0);
        edges.due("of its texts that have a CLAUSE of it", TWO + "'most 7' charter(0,1) 'gold 3' charter(0,5)", "force(0,1,5,0)", 7,
                "why(0,1,5)", 0, "force(0,3,5,0)", 3, "why(0,3,5)", 100, "force(0,3,4,0)", -5);
        edges.due("of its texts, not of another FIRM's", TWO + "holder(1,0) 'most 7' charter(0,1) 'most 8' charter(2,5)",
                "force(0,1,5,0)", 7, "force(2,1,5,0)", 8, "force(2,1,4,0)", 999);
    }

    private void forceSleeps() {
        edges.of(11);
        String asleep = ONE_SHARE + "'sleep v>0' charter(0,3) ";
        edges.due("whether a SHARE's votes sleep by it", asleep, "force(0,4,2,0)", 0, "force(0,4,3,0)", 1, "force(0,4,999,0)", 1);
        edges.due("of a SHARE that is nobody's 0", TWO + "'sleep v>0' charter(0,0) pass(5) share(0,1,1,20)", "force(0,4,4,0)", 0,
                "force(0,4,5,0)", 1);
        edges.due("whether it is one in that FIRM does not matter", asleep + "holder(1,0) share(2,1,1,1)", "force(0,4,3,1)", 1,
                "force(2,4,3,0)", 0, "force(2,4,3,1)", 0);
        edges.due("of 0 VOTES", asleep + "share(0,1,1,0)", "force(0,4,3,1)", 0);
        edges.due("of the FIRM itself, of FUNDS and CLUBS", asleep + "holder(4,0) holder(5,0) share(0,0,1,1) share(0,2,1,1) share(0,3,1,1)",
                "force(0,4,3,1)", 1, "force(0,4,3,2)", 1, "force(0,4,3,3)", 1);
        edges.due("by the E of its own charter", ONE_SHARE + "holder(1,0) 'sleep k=2&v=20' charter(0,0) 'sleep k=9|v=9|k=8' charter(2,0) "
                + "'sleep !v=20' charter(2,5)", "force(0,4,0,0)", 1, "force(2,4,0,0)", 0, "force(0,4,5,0)", 1, "force(2,4,5,0)", 0);
        String longest = "'" + of(93, "sleep k=1", "|k=1") + "|v=20' charter(0,0) ";
        edges.due("by the longest E, of fifteen", ONE_SHARE + "14*{" + longest + "} '" + of(97, "sleep k=1", "|k=1") + "' charter(0,5)",
                "force(0,4,0,0)", 1, "why(0,4,0)", 1300, "force(0,4,5,0)", 0, "why(0,4,5)", 1400);
        edges.due("the last SHARE", TWO + "40*share(0,1,0,2) 'sleep v=2' charter(0,0)", "force(0,4,0,39)", 1, "force(0,4,0,40)", -1);
        edges.due("d DAYS since when it has the SHARE", ONE_SHARE + "'sleep d=0' charter(0,0) pass(5) sale(0,0)", "force(0,4,0,0)", 1,
                "force(0,4,1,0)", 0, "force(0,4,4,0)", 0, "force(0,4,5,0)", 1, "force(0,4,6,0)", 0);
        edges.due("d, the most", ONE_SHARE + "'sleep d>998' charter(0,0)", "force(0,4,998,0)", 0, "force(0,4,999,0)", 1);
    }

    /** One share of kin 14 of family 2: kind 3, 7 days, 3 parts, 20 votes. */
    private void forceTests() {
        edges.of(11);
        Object[][] facts = {{"k", 3}, {"h", 14}, {"d", 7}, {"p", 3}, {"v", 20}};
        String world = "holder(1,0) 13*holder(0,0) holder(3,2) share(0,14,3,20) ";
        for (Object[] fact : facts) {
            int value = (int) fact[1];
            for (int n = value - 1; n <= value + 1; n++) {
                edges.due("a TEST: <", world + "'sleep " + fact[0] + "<" + n + "' charter(0,0)", "force(0,4,7,0)", value < n ? 1 : 0);
                edges.due("a TEST: =", world + "'sleep " + fact[0] + "=" + n + "' charter(0,0)", "force(0,4,7,0)", value == n ? 1 : 0);
                edges.due("a TEST: >", world + "'sleep " + fact[0] + ">" + n + "' charter(0,0)", "force(0,4,7,0)", value > n ? 1 : 0);
            }
        }
        for (int kind = 0; kind < 6; kind++) {
            edges.due("k KIND", "holder(1,0) holder(" + kind + ",0) share(0,1,1,1) 'sleep k=" + kind + "' charter(0,0) 'sleep k<" + kind
                    + "|k>" + kind + "' charter(0,1)", "force(0,4,0,0)", 1, "force(0,4,1,0)", 0);
        }
        Object[][] joined = {
            {"k=3&v=20", 1}, {"k=3&v=9", 0}, {"k=9&v=20", 0}, {"k=9&v=9", 0}, {"k=3|v=20", 1}, {"k=3|v=9", 1}, {"k=9|v=20", 1},
            {"k=9|v=9", 0}, {"!k=3", 0}, {"!k=9", 1}, {"!!k=3", 1}, {"!!!k=3", 0}, {"!!!!k=3", 1}, {"k=3|k=3&k=9", 1}, {"(k=3|k=3)&k=9", 0},
            {"k=9&k=9|k=3", 1}, {"k=9&(k=9|k=3)", 0}, {"!k=9&k=9", 0}, {"!(k=9&k=9)", 1}, {"!k=3|k=3", 1}, {"!(k=3|k=3)", 0},
            {"k<0", 0}, {"!k<0", 1}, {"k=3|k<0", 1}, {"k<0|k=3", 1}, {"k=3&k<0", 0}, {"k<0|k<0", 0}, {"((((k=3))))", 1}, {"!(!(k=3))", 1}, {"k=9|k=9|k=9|k=3", 1}, {"k=3&k=3&k=3&k=9", 0},
        };
        for (Object[] row : joined) {
            edges.due("E: T or T|E, T: F or F&T, F: !F, (E)", world + "'sleep " + row[0] + "' charter(0,0)", "force(0,4,7,0)", row[1]);
        }
    }

    private void why() {
        edges.of(12);
        edges.due("-5: none", ONE_SHARE, "why(0,0,0)", -5, "why(0,1,0)", -5, "why(0,2,0)", -5, "why(0,3,0)", -5, "why(0,4,0)", -5,
                "why(0,4,999)", -5);
        edges.due("100 times the text, and its CLAUSE: the first", TWO + "'most 1' charter(0,0)", "why(0,1,0)", 0);
        edges.due("100 times the text, and its CLAUSE: each word", TWO + "'sleep k=1;gold 1;old 1 1;most 1;need 1 1;gold 1' charter(0,0)",
                "why(0,0,0)", 4, "why(0,1,0)", 3, "why(0,2,0)", 2, "why(0,3,0)", 5, "why(0,4,0)", 0);
        edges.due("100 times the text, and its CLAUSE: the last", TWO + "19*{'most 7' charter(0,0)} "
                + "'gold 1;gold 1;gold 1;gold 1;gold 1;most 1' charter(0,0)", "why(0,1,0)", 1905, "why(0,3,0)", 1904);
        edges.due("of the last text each word", ONE_SHARE + "19*{'most 7' charter(0,0)} 'gold 5;sleep v>0;old 1 2;most 1;need 2 3' charter(0,0)",
                "why(0,0,0)", 1904, "why(0,1,0)", 1903, "why(0,2,0)", 1902, "why(0,3,0)", 1900, "why(0,4,0)", 1901, "force(0,0,0,0)", 2003,
                "force(0,1,0,0)", 1, "force(0,2,0,0)", 1002, "force(0,3,0,0)", 5, "force(0,4,0,0)", 1);
        edges.due("a DAY on", TWO + "'most 1' charter(0,5)", "why(0,1,4)", -5, "why(0,1,5)", 0, "why(0,1,999)", 0);
        edges.due("of several the latest, by DAYS", TWO + "'most 1' charter(0,5) 'gold 1;most 1' charter(0,5) 'most 1' charter(0,4)",
                "why(0,1,3)", -5, "why(0,1,4)", 200, "why(0,1,5)", 101);
        edges.due("NONE: firm", ONE_SHARE, "why(-1,0,0)", -1, "why(1,0,0)", -1, "why(2,0,0)", -1, "why(MIN,0,0)", -1, "why(MAX,0,0)", -1);
        edges.due("NONE: word", ONE_SHARE, "why(0,-1,0)", -1, "why(0,5,0)", -1, "why(0,MIN,0)", -1, "why(0,MAX,0)", -1);
        edges.due("BAD: day", ONE_SHARE, "why(0,0,-1)", -2, "why(0,0,1000)", -2, "why(0,4,MIN)", -2, "why(0,4,MAX)", -2);
        edges.due("NONE ahead of BAD", ONE_SHARE, "why(1,0,-1)", -1, "why(0,5,1000)", -1);
    }

    private void votes() {
        edges.of(13);
        edges.due("NONE: firm", ONE_SHARE, "votes(-1,1,0)", -1, "votes(1,1,0)", -1, "votes(2,1,0)", -1, "votes(MIN,1,0)", -1,
                "votes(MAX,1,0)", -1);
        edges.due("NONE: holder", ONE_SHARE, "votes(0,-1,0)", -1, "votes(0,2,0)", -1, "votes(0,MIN,0)", -1, "votes(0,MAX,0)", -1);
        edges.due("NONE: day", ONE_SHARE, "votes(0,1,-1)", -1, "votes(0,1,1000)", -1, "votes(0,1,MIN)", -1, "votes(0,1,MAX)", -1);
        edges.due("DAYS 0 .. 999", ONE_SHARE, "votes(0,1,0)", 20, "votes(0,1,999)", 20);
        edges.due("no SHARES in it", TWO, "votes(0,1,0)", 0, "votes(0,0,0)", 0);
        edges.due("those of its SHARES in it", ONE_SHARE + "holder(1,0) share(2,1,1,7) share(0,1,0,5) share(0,0,1,9) share(2,0,1,3)",
                "votes(0,1,0)", 25, "votes(2,1,0)", 7, "votes(2,0,0)", 3, "votes(0,2,0)", 0);
        edges.due("FUNDS and CLUBS have none", TWO + "holder(4,0) holder(5,0) share(0,2,1,9) share(0,3,1,9)", "votes(0,2,0)", 0,
                "votes(0,3,0)", 0);
        edges.due("nor has a FIRM in itself", TWO + "holder(1,0) share(0,0,1,9) share(0,2,1,8) share(2,2,1,7)", "votes(0,0,0)", 0,
                "votes(0,2,0)", 8, "votes(2,2,0)", 0);
        edges.due("KINDS 0, 2 and 3 have", TWO + "holder(0,0) holder(3,0) share(0,1,1,7) share(0,2,1,8) share(0,3,1,9)",
                "votes(0,1,0)", 7, "votes(0,2,0)", 8, "votes(0,3,0)", 9);
        edges.due("on a DAY", TWO + "holder(2,0) pass(5) share(0,1,1,20) pass(5) sale(0,2)", "votes(0,1,4)", 0, "votes(0,1,5)", 20,
                "votes(0,1,9)", 20, "votes(0,1,10)", 0, "votes(0,2,9)", 0, "votes(0,2,10)", 20, "votes(0,2,999)", 20);
        edges.due("none of one for which sleep holds", ONE_SHARE + "share(0,1,1,6) 'sleep v>6' charter(0,0) 'sleep v>5' charter(0,1) "
                + "'sleep v>20' charter(0,2)", "votes(0,1,0)", 6, "votes(0,1,1)", 0, "votes(0,1,2)", 26);
    }

    private void votesOld() {
        edges.of(13);
        edges.due("held for n DAYS or more", ONE_SHARE + "'old 4 3' charter(0,0)", "votes(0,1,3)", 20, "votes(0,1,4)", 60,
                "votes(0,1,5)", 60, "votes(0,1,999)", 60);
        edges.due("held for 0 DAYS or more", ONE_SHARE + "'old 0 3' charter(0,0)", "votes(0,1,0)", 60);
        edges.due("held for 999 DAYS or more", ONE_SHARE + "'old 999 3' charter(0,0)", "votes(0,1,998)", 20, "votes(0,1,999)", 60);
        edges.due("without any: old 999 1", ONE_SHARE, "votes(0,1,998)", 20, "votes(0,1,999)", 20);
        edges.due("0 times as many", ONE_SHARE + "'old 4 0' charter(0,0)", "votes(0,1,3)", 20, "votes(0,1,4)", 0);
        edges.due("once as many", ONE_SHARE + "'old 4 1' charter(0,0)", "votes(0,1,4)", 20);
        edges.due("999 times as many", TWO + "share(0,1,0,1) 'old 0 999' charter(0,0)", "votes(0,1,0)", 999);
        edges.due("held since a SALE", ONE_SHARE + "'old 4 3' charter(0,0) pass(5) sale(0,0) sale(0,1)", "votes(0,1,4)", 60,
                "votes(0,1,5)", 20, "votes(0,1,8)", 20, "votes(0,1,9)", 60);
        edges.due("of one, not of another", ONE_SHARE + "'old 4 3' charter(0,0) pass(2) share(0,1,0,1)", "votes(0,1,3)", 21,
                "votes(0,1,4)", 61, "votes(0,1,5)", 61, "votes(0,1,6)", 63);
        edges.due("sleep by v before old", ONE_SHARE + "'old 0 3;sleep v=60' charter(0,0)", "votes(0,1,0)", 60);
    }

    private void votesMost() {
        edges.of(13);
        edges.due("all together most at most", ONE_SHARE + "'most 19' charter(0,0) 'most 20' charter(0,1) 'most 21' charter(0,2) "
                + "'most 0' charter(0,3)", "votes(0,1,0)", 19, "votes(0,1,1)", 20, "votes(0,1,2)", 20, "votes(0,1,3)", 0);
        edges.due("all together, not each", ONE_SHARE + "share(0,1,0,20) 'most 30' charter(0,0)", "votes(0,1,0)", 30);
        edges.due("each HOLDER's, not all HOLDERS'", ONE_SHARE + "holder(2,0) share(0,2,0,25) 'most 20' charter(0,0)", "votes(0,1,0)", 20,
                "votes(0,2,0)", 20);
        edges.due("of HOLDER 0", "holder(2,0) holder(1,0) share(1,0,0,20) 'most 19' charter(1,0)", "votes(1,0,0)", 19);
        edges.due("most behind old", ONE_SHARE + "'old 0 3;most 50' charter(0,0)", "votes(0,1,0)", 50);
        edges.due("without any: most 999", TWO + "10*share(0,1,0,99) share(0,1,0,9)", "votes(0,1,0)", 999);
        edges.due("without any: most 999, below it", TWO + "10*share(0,1,0,99) share(0,1,0,8)", "votes(0,1,0)", 998);
        edges.due("without any: most 999, above it", TWO + "10*share(0,1,0,99) share(0,1,0,10)", "votes(0,1,0)", 999);
        edges.due("40 SHARES of 99 VOTES, 999 times", TWO + "40*share(0,1,0,99) 'old 0 999' charter(0,0)", "votes(0,1,0)", 999,
                "carry(0,2,0)", 1);
    }

    private void carry() {
        edges.of(14);
        edges.due("NONE: firm", ONE_SHARE, "carry(-1,2,0)", -1, "carry(1,2,0)", -1, "carry(2,2,0)", -1, "carry(MIN,2,0)", -1,
                "carry(MAX,2,0)", -1);
        edges.due("NONE: day", ONE_SHARE, "carry(0,2,-1)", -1, "carry(0,2,1000)", -1, "carry(0,2,MIN)", -1, "carry(0,2,MAX)", -1);
        edges.due("DAYS 0 .. 999", ONE_SHARE, "carry(0,2,0)", 1, "carry(0,2,999)", 1);
        edges.due("BAD: set", ONE_SHARE, "carry(0,4,0)", -2, "carry(0,6,0)", -2, "carry(0,-1,0)", -2, "carry(0,MIN,0)", -2,
                "carry(0,MAX,0)", -2);
        edges.due("a set of none, of all", ONE_SHARE, "carry(0,0,0)", 0, "carry(0,3,0)", 1);
        edges.due("a set of all 16", "holder(1,0) 15*holder(2,0) share(0,15,1,1)", "carry(0,65535,0)", 1, "carry(0,32768,0)", 1,
                "carry(0,32767,0)", 0, "carry(0,65536,0)", -2, "carry(0,98303,0)", -2);
        edges.due("a set with HOLDER 0", "holder(2,0) holder(1,0) holder(2,0) share(1,0,1,5) share(1,2,1,4)", "carry(1,1,0)", 1, "carry(1,4,0)", 0,
                "carry(1,5,0)", 1, "carry(1,6,0)", 0, "votes(1,0,0)", 5);
        edges.due("NONE ahead of BAD", ONE_SHARE, "carry(1,4,0)", -1, "carry(0,4,1000)", -1, "carry(0,-1,-1)", -1);
        edges.due("on a DAY", TWO + "pass(5) share(0,1,1,20) pass(5) sale(0,0)", "carry(0,2,4)", 0, "carry(0,2,5)", 1, "carry(0,2,9)", 1,
                "carry(0,2,10)", 0);
        edges.due("no VOTES in it at all", TWO + "'need 0 1' charter(0,0)", "carry(0,3,0)", 0);
    }

    private void carryNeed() {
        edges.of(14);
        String three = TWO + "holder(2,0) share(0,1,1,10) share(0,2,1,9) ";
        edges.due("more than half", three, "carry(0,2,0)", 1, "carry(0,4,0)", 0);
        edges.due("just half is not more", three + "share(0,2,1,1)", "carry(0,2,0)", 0, "carry(0,4,0)", 0, "carry(0,6,0)", 1);
        edges.due("more by one", three + "share(0,2,1,2)", "carry(0,2,0)", 0, "carry(0,4,0)", 1);
        edges.due("d times these, n times all: just as many", three + "'need 10 19' charter(0,0)", "carry(0,2,0)", 0, "carry(0,6,0)", 1);
        edges.due("d times these, n times all: a little more", three + "'need 10 20' charter(0,0)", "carry(0,2,0)", 1);
        edges.due("d times these, n times all: a little less", three + "'need 10 18' charter(0,0)", "carry(0,2,0)", 0);
        edges.due("need 0 1: any VOTE", three + "share(0,0,0,5) 'need 0 1' charter(0,0)", "carry(0,0,0)", 0, "carry(0,1,0)", 0,
                "carry(0,2,0)", 1, "carry(0,4,0)", 1);
        edges.due("need 1 1: never", three + "'need 1 1' charter(0,0)", "carry(0,7,0)", 0);
        edges.due("need 999 1: never", three + "'need 999 1' charter(0,0)", "carry(0,7,0)", 0);
        edges.due("need 998 999: all", three + "'need 998 999' charter(0,0)", "carry(0,2,0)", 0, "carry(0,6,0)", 1, "carry(0,7,0)", 1);
        edges.due("of VOTES that sleep, of FUNDS none is counted", three + "holder(4,0) share(0,3,1,99) share(0,0,1,99) share(0,2,1,99) "
                + "'sleep v>50' charter(0,0)", "carry(0,2,0)", 1, "carry(0,4,0)", 0, "carry(0,13,0)", 0);
    }

    private void carryGold() {
        edges.of(14);
        String three = TWO + "holder(2,0) share(0,1,1,10) share(0,2,1,9) ";
        edges.due("the HOLDER of gold is one of them", three + "'gold 2' charter(0,0)", "carry(0,2,0)", 0, "carry(0,4,0)", 0,
                "carry(0,6,0)", 1);
        edges.due("the HOLDER of gold without VOTES", three + "'gold 0' charter(0,0)", "carry(0,2,0)", 0, "carry(0,6,0)", 0,
                "carry(0,3,0)", 1, "carry(0,1,0)", 0);
        edges.due("if there is such a HOLDER", three + "'gold 3' charter(0,0)", "carry(0,2,0)", 1, "holder(0,0)", 3, "carry(0,2,0)", 0,
                "carry(0,10,0)", 1);
        edges.due("if there is such a HOLDER: never", three + "'gold 16' charter(0,0) 13*holder(2,0)", "carry(0,2,0)", 1);
        edges.due("if there is such a HOLDER: the last", three + "'gold 15' charter(0,0) 13*holder(2,0)", "carry(0,2,0)", 0,
                "carry(0,32770,0)", 1);
        edges.due("nobody gold ahead of its DAY", three + "'gold 2' charter(0,5)", "carry(0,2,4)", 1, "carry(0,2,5)", 0);
        edges.due("the last clause of gold", three + "'gold 2;gold 1' charter(0,0)", "carry(0,2,0)", 1);
    }
}
