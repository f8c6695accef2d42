/** Objects brought into a wanted state by calls alone. */
final class States {
    /** A sum and a count each, from new to full: the contexts of a mixed object hold one each. */
    private static final int[][] MIXED = {{4, 1}, {9, 8}, {1004, 5}, {65535, 2}};

    private States() {
    }

    /** An object whose context ctx holds the sum a and the count n, 2..8, and whose others are new. */
    static RiceAdapt of(int ctx, int a, int n) {
        RiceAdapt x = new RiceAdapt();
        bring(x, ctx, a, n);
        return x;
    }

    /** An object whose contexts all differ; over the turns 0 to 3 each context is in each state. */
    static RiceAdapt mixed(int turn) {
        RiceAdapt x = new RiceAdapt();
        for (int ctx = 0; ctx < 4; ctx++) {
            int[] state = MIXED[(ctx + turn) % 4];
            if (state[1] > 1) {
                bring(x, ctx, state[0], state[1]);
            }
        }
        return x;
    }

    static int[] mixedCells(int turn) {
        int[] cells = new int[8];
        for (int ctx = 0; ctx < 4; ctx++) {
            cells[ctx] = MIXED[(ctx + turn) % 4][0];
            cells[ctx + 4] = MIXED[(ctx + turn) % 4][1];
        }
        return cells;
    }

    private static void bring(RiceAdapt x, int ctx, int a, int n) {
        x.update(ctx, a - 4);
        for (int i = 2; i < n; i++) {
            x.update(ctx, 0);
        }
    }
}
