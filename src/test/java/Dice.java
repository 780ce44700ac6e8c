/** Numbers that look thrown, but are the same each time. */
final class Dice {
    private long state;

    Dice(long seed) {
        state = seed * 0x9e37_79b9_7f4a_7c15L + 0x1234_5678_9abc_def1L;
    }

    long next() {
        state = state * 6364136223846793005L + 1442695040888963407L;
        long mixed = (state ^ state >>> 31) * 0xbf58_476d_1ce4_e5b9L;
        return mixed ^ mixed >>> 29;
    }

    int below(int bound) {
        return (int) Long.remainderUnsigned(next() >>> 16, bound);
    }

    /** True once in so many times. */
    boolean once(int times) {
        return below(times) == 0;
    }

    String one(String... words) {
        return words[below(words.length)];
    }
}
