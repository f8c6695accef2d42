/** The document's rules in longs, by division and remainder: what is due from any run of calls. */
final class Model {
    final int[] cells = {4, 4, 4, 4, 1, 1, 1, 1};

    int k(int ctx) {
        if (ctx < 0 || ctx > 3) {
            return -1;
        }
        int k = 0;
        for (long reached = cells[ctx + 4]; reached < cells[ctx]; reached *= 2) {
            k++;
        }
        return k;
    }

    int codeLen(int ctx, int m) {
        if (ctx < 0 || ctx > 3) {
            return -1;
        }
        return length(k(ctx), m);
    }

    /** A negative m stands for its unsigned value, which is above every length. */
    static int length(int k, int m) {
        long quotient = (m & 0xFFFFFFFFL) / (1L << k);
        return (int) Math.min(quotient + 1 + k, 32);
    }

    int update(int ctx, int m) {
        if (ctx < 0 || ctx > 3) {
            return -1;
        }
        int sum = (int) Math.floorMod((long) cells[ctx] + m, 65536L);
        boolean full = cells[ctx + 4] == 8;
        cells[ctx] = full ? sum / 2 : sum;
        cells[ctx + 4] = full ? 5 : cells[ctx + 4] + 1;
        return cells[ctx + 4];
    }

    int cell(int i) {
        return i < 0 || i > 7 ? -1 : cells[i];
    }
}
