/** Numbers without a pattern, the same ones for the same seed in every run of a test. */
final class Dice {
    private long state;

    Dice(long seed) {
        state = seed * 7919 + 12345;
    }

    /** One of 0 .. bound - 1. */
    int below(int bound) {
        state = state * 6364136223846793005L + 1442695040888963407L;
        return (int) ((state >>> 33) % bound);
    }

    boolean oneIn(int n) {
        return below(n) == 0;
    }
}
