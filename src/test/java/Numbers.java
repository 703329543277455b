import java.util.Arrays;

/** Numbers at the ends of ranges and beyond them. */
final class Numbers {
    static final int LEAST = Integer.MIN_VALUE;
    static final int MOST = Integer.MAX_VALUE;
    static final int[] NO_THREAD = outside(4);
    static final int[] NO_REGISTER = outside(4);
    static final int[] NO_VARIABLE = outside(8);
    static final int[] NO_KIND = outside(17);

    private Numbers() {
    }

    /**
     * Numbers that are not 0 .. limit - 1: the neighbours, the farthest, and those that a shift or
     * a mask would take for one within.
     */
    static int[] outside(int limit) {
        int[] tried = {LEAST, LEAST + 1, -65536, -256, -32, -31, -17, -16, -8, -4, -2, -1, limit, limit + 1, 2 * limit,
            16, 17, 31, 32, 33, 64, 256, 65536, MOST - 1, MOST};
        return Arrays.stream(tried).filter(n -> n < 0 || n >= limit).toArray();
    }
}
