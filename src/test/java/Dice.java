/** Numbers that look thrown, the same ones in each run. */
final class Dice {
    private long state;

    Dice(long seed) {
        state = seed * 0x9E3779B97F4A7C15L + 12345;
    }

    /** 0 to bound - 1. */
    int below(int bound) {
        state ^= state << 13;
        state ^= state >>> 7;
        state ^= state << 17;
        return (int) Long.remainderUnsigned(state >>> 11, bound);
    }

    int from(int least, int most) {
        return least + below(most - least + 1);
    }

    /** True once in so many throws. */
    boolean oneIn(int many) {
        return below(many) == 0;
    }

    String of(String... choices) {
        return choices[below(choices.length)];
    }
}
