/** The same numbers in each run, so that a failure can be seen again. */
final class Numbers {
    private long state;

    Numbers(long seed) {
        state = seed;
    }

    int any() {
        state = state * 6364136223846793005L + 1442695040888963407L;
        return (int) (state >>> 32);
    }

    int below(int bound) {
        return Math.floorMod(any() >>> 3, bound);
    }
}
