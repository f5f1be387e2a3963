/** A fixed row of numbers: the same ones at each run. */
final class Numbers {
    private long state;

    Numbers(long first) {
        state = first;
    }

    int below(int n) {
        state = state * 6364136223846793005L + 1442695040888963407L;
        return (int) Math.floorMod(state >>> 33, (long) n);
    }

    int from(int low, int high) {
        return low + below(high - low + 1);
    }
}
