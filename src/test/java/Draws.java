/** What the document's draws come to, and seeds from which they come as they are wanted. */
final class Draws {
    private static final int SEEDS = 2000000;

    private Draws() {
    }

    static long next(long seed) {
        return (seed * 1103515245L + 12345L) % (1L << 31);
    }

    static int draw(long seed, int n) {
        return (int) (seed / 65536 % n);
    }

    /** The least seed from which a draw of the first number is the second, then a draw of the third the fourth, and so on. */
    static int start(int... wanted) {
        for (int start = 0; start < SEEDS; start++) {
            if (comes(start, wanted)) {
                return start;
            }
        }
        throw new IllegalArgumentException("no seed below " + SEEDS);
    }

    private static boolean comes(long start, int... wanted) {
        long seed = start;
        for (int i = 0; i < wanted.length; i += 2) {
            seed = next(seed);
            if (draw(seed, wanted[i]) != wanted[i + 1]) {
                return false;
            }
        }
        return true;
    }

    /** The seed behind so many draws. */
    static int behind(int start, int draws) {
        long seed = start;
        for (int i = 0; i < draws; i++) {
            seed = next(seed);
        }
        return (int) seed;
    }
}
