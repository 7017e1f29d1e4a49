/** Numbers that look thrown but are the same in every run. */
final class Dice {
    private long state;

    Dice(long seed) {
        state = seed * 0x9E3779B97F4A7C15L + 1;
    }

    long bits() {
        state ^= state << 13;
        state ^= state >>> 7;
        state ^= state << 17;
        return state * 0x2545F4914F6CDD1DL;
    }

    int below(int bound) {
        return (int) Long.remainderUnsigned(bits() >>> 8, bound);
    }

    boolean oneIn(int n) {
        return below(n) == 0;
    }

    String of(String... choices) {
        return choices[below(choices.length)];
    }

    long value() {
        switch (below(8)) {
            case 0:
                return bits();
            case 1:
                return bits() >> below(64);
            case 2:
                return bits() >>> below(64);
            case 3:
                return new long[] {0, -1, Long.MIN_VALUE, Long.MAX_VALUE, Integer.MIN_VALUE, Integer.MAX_VALUE,
                    1L << 32, 0xFFFFFFFFL, 0x80000000L, 0x100000003L}[below(10)];
            case 4:
                return 0x6867666564636261L >>> (8 * below(8));
            case 5:
                return below(220) - 110;
            default:
                return below(24) - 12;
        }
    }
}
