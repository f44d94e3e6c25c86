/** Numbers that look like chance and are the same in every run. */
final class Numbers {
    private long state;

    Numbers(long seed) {
        state = seed;
    }

    /** One of 0 .. below - 1. */
    int below(int below) {
        state = state * 6364136223846793005L + 1442695040888963407L;
        return (int) ((state >>> 33) % below);
    }

    /** One of least .. most. */
    int from(int least, int most) {
        return least + below(most - least + 1);
    }
}
