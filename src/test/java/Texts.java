/** Feeds texts byte by byte and enacts them. */
final class Texts {
    private Texts() {
    }

    static void feed(WhoRules x, String text) {
        for (int i = 0; i < text.length(); i++) {
            x.feed(text.charAt(i), 1);
        }
    }

    static int charter(WhoRules x, int firm, int day, String text) {
        feed(x, text);
        return x.charter(firm, day);
    }
}
