/** Compares answers with those that are due, and ends the run with code 1 if one differs. */
final class Check {
    private static final int SHOWN = 40;

    private final String name;
    private int asked;
    private int wrong;

    Check(String name) {
        this.name = name;
    }

    void due(String call, long got, long want) {
        asked++;
        if (got != want) {
            tell(call + " answered " + got + ", due is " + want);
        }
    }

    void text(String call, String got, String want) {
        asked++;
        if (!got.equals(want)) {
            tell(call + " answered " + got + ", due is " + want);
        }
    }

    int wrong() {
        return wrong;
    }

    private void tell(String line) {
        wrong++;
        if (wrong <= SHOWN) {
            System.out.println(name + ": " + line);
        }
    }

    void end() {
        System.out.println(name + ": " + asked + " answers, " + wrong + " not as due");
        if (wrong != 0 || asked == 0) {
            System.exit(1);
        }
    }
}
