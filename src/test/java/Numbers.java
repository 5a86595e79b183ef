/** A fixed row of numbers that looks mixed: the same seed always gives the same row. */
final class Numbers {
    private static final int[] EXTREMES = {
        Integer.MIN_VALUE, Integer.MIN_VALUE + 1, -256, -41, -3, -2, -1, 9, 10, 11, 12, 13, 38, 39, 40, 41, 255, 256,
        65536, Integer.MAX_VALUE / 10 + 1, Integer.MAX_VALUE - 1, Integer.MAX_VALUE
    };

    private long state;

    Numbers(long seed) {
        state = seed;
    }

    /** From 0 to bound - 1. */
    int below(int bound) {
        state = state * 6364136223846793005L + 1442695040888963407L;
        return (int) ((state >>> 33) % bound);
    }

    int extreme() {
        return EXTREMES[below(EXTREMES.length)];
    }
}
