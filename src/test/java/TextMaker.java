/** Makes texts of charters, most of them whole, some with a fault in them. */
final class TextMaker {
    private final Dice dice;

    TextMaker(Dice dice) {
        this.dice = dice;
    }

    String text() {
        StringBuilder s = new StringBuilder();
        int clauses = dice.one(12) ? dice.from(5, 7) : dice.from(1, 3);
        for (int k = 0; k < clauses; k++) {
            s.append(k == 0 ? "" : ";").append(clause());
        }
        if (dice.one(5)) {
            spoil(s);
        }
        return cut(s.toString());
    }

    String shortText() {
        return cut(clause());
    }

    private static String cut(String text) {
        return text.substring(0, Math.min(100, text.length()));
    }

    private void spoil(StringBuilder s) {
        int at = dice.below(s.length());
        switch (dice.below(4)) {
            case 0 -> s.deleteCharAt(at);
            case 1 -> s.setLength(at);
            case 2 -> s.insert(at, sign());
            default -> s.setCharAt(at, sign());
        }
    }

    private char sign() {
        return dice.one(8) ? (char) dice.below(256) : "needmostoldgoldsleep ;()!&|<=>khdpv0123456789".charAt(dice.below(45));
    }

    private String clause() {
        return switch (dice.below(9)) {
            case 0, 1 -> "need " + number() + " " + (dice.one(9) ? dice.of("0", "00", "000") : number());
            case 2 -> "most " + number();
            case 3, 4 -> "old " + number() + " " + number();
            case 5, 6 -> "gold " + number();
            default -> "sleep " + any(0);
        };
    }

    private String number() {
        return switch (dice.below(8)) {
            case 0 -> "" + dice.below(1000);
            case 1 -> "0" + dice.below(100);
            case 2 -> "00" + dice.below(10);
            case 3 -> "" + dice.below(40);
            default -> "" + dice.from(1, 12);
        };
    }

    private String any(int depth) {
        return every(depth) + (dice.one(4) ? "|" + any(depth) : "");
    }

    private String every(int depth) {
        return one(depth) + (dice.one(4) ? "&" + every(depth) : "");
    }

    private String one(int depth) {
        if (depth < 6 && dice.one(3)) {
            return dice.one(2) ? "!" + one(depth + 1) : "(" + any(depth + 1) + ")";
        }
        return dice.of("k", "h", "d", "p", "v") + dice.of("<", "=", ">") + number();
    }
}
