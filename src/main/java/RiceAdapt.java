/** An adaptive Golomb-Rice parameter for four independent contexts, as in JPEG-LS. */
public final class RiceAdapt {
    private static final int CONTEXTS = 4;
    private static final int START_SUM = 4;
    private static final int START_COUNT = 1;
    private static final int RESET_COUNT = 8;
    private static final int LENGTH_LIMIT = 32;
    private static final int LARGEST_K = 16;
    private static final int INVALID = -1;

    // A char wraps modulo 65536 by itself, which is the sum's promised range.
    private final char[] sums = new char[CONTEXTS];
    private final byte[] counts = new byte[CONTEXTS];

    public RiceAdapt() {
        for (int ctx = 0; ctx < CONTEXTS; ctx++) {
            sums[ctx] = (char) START_SUM;
            counts[ctx] = (byte) START_COUNT;
        }
    }

    public int k(int ctx) {
        if (!isContext(ctx)) {
            return INVALID;
        }
        int sum = sums[ctx];
        int count = counts[ctx];
        for (int k = 0; k < LARGEST_K; k++) {
            if ((count << k) >= sum) {
                return k;
            }
        }
        // A count of at least 1, shifted by 16, is above every sum.
        return LARGEST_K;
    }

    public int codeLen(int ctx, int m) {
        if (!isContext(ctx)) {
            return INVALID;
        }
        int k = k(ctx);
        int q = m >>> k;
        // A shift by 0 leaves a negative m negative, so the upper bound alone would let it through.
        if (q < 0 || q > LENGTH_LIMIT - 1 - k) {
            return LENGTH_LIMIT;
        }
        return q + 1 + k;
    }

    public int update(int ctx, int m) {
        if (!isContext(ctx)) {
            return INVALID;
        }
        sums[ctx] = (char) (sums[ctx] + m);
        // The sum already holds m here: the halving takes in the new value too.
        if (counts[ctx] == RESET_COUNT) {
            sums[ctx] = (char) (sums[ctx] >> 1);
            counts[ctx] = (byte) (counts[ctx] >> 1);
        }
        counts[ctx] = (byte) (counts[ctx] + 1);
        return counts[ctx];
    }

    public int cell(int i) {
        if (isContext(i)) {
            return sums[i];
        }
        if (i >= CONTEXTS && i < 2 * CONTEXTS) {
            return counts[i - CONTEXTS];
        }
        return INVALID;
    }

    private static boolean isContext(int ctx) {
        return ctx >= 0 && ctx < CONTEXTS;
    }
}
