/** Numbers that look thrown, the same ones in every run. */
final class Dice {
    private long state;

    Dice(long seed) {
        state = seed * 0x9E3779B97F4A7C15L + 0x1234567L;
        below(2);
        below(2);
    }

    int below(int bound) {
        state = state * 6364136223846793005L + 1442695040888963407L;
        return (int) ((state >>> 33) % bound);
    }

    int from(int least, int most) {
        return least + below(most - least + 1);
    }

    boolean one(int outOf) {
        return below(outOf) == 0;
    }

    int any() {
        return below(1 << 16) << 16 ^ below(1 << 16);
    }

    @SafeVarargs
    final <T> T of(T... things) {
        return things[below(things.length)];
    }
}
