/** Promise 4: update adds, halves at the count 8, and counts on, in one context alone. */
public final class UpdateTest {
    public static void main(String[] args) {
        wrapping();
        countsOfARun();
        halving();
        contextsAreIndependent();
        invalidContexts();
        longRun();
        Due.end("UpdateTest");
    }

    private static void wrapping() {
        int[][] rows = {
            {4, 0, 4}, {4, -4, 0}, {4, -5, 65535}, {65535, 1, 0}, {65535, 2, 1}, {0, -1, 65535},
            {4, 65531, 65535}, {4, 65532, 0}, {4, 65536, 4}, {4, -65536, 4}, {4, 65537, 5},
            {4, Integer.MIN_VALUE, 4}, {65535, Integer.MIN_VALUE, 65535}, {4, Integer.MAX_VALUE, 3},
            {0, Integer.MAX_VALUE, 65535}, {65535, Integer.MAX_VALUE, 65534}, {4, Integer.MIN_VALUE + 1, 5}
        };
        for (int[] row : rows) {
            for (int ctx = 0; ctx < 4; ctx++) {
                RiceAdapt x = Due.stateOf(ctx, row[0], 2);
                String call = "update(" + ctx + ", " + row[1] + ") with A = " + row[0];
                Due.equal(call, x.update(ctx, row[1]), 3);
                Due.equal("cell(" + ctx + ") after " + call, x.cell(ctx), row[2]);
            }
        }
        RiceAdapt fresh = new RiceAdapt();
        Due.equal("update(0, -5) of a new object", fresh.update(0, -5), 2);
        Due.cells("update(0, -5)", fresh, 65535, 4, 4, 4, 2, 1, 1, 1);
    }

    private static void countsOfARun() {
        int[] due = {2, 3, 4, 5, 6, 7, 8, 5, 6, 7, 8, 5, 6, 7, 8, 5};
        for (int ctx = 0; ctx < 4; ctx++) {
            RiceAdapt x = new RiceAdapt();
            for (int i = 0; i < due.length; i++) {
                String call = "update " + (i + 1) + " of context " + ctx;
                Due.equal(call, x.update(ctx, i), due[i]);
                Due.equal("cell(" + (ctx + 4) + ") after " + call, x.cell(ctx + 4), due[i]);
            }
        }
    }

    /** The sum takes in m and wraps before it is halved, rounded down. */
    private static void halving() {
        int[][] rows = {
            {10, 0, 5}, {10, 1, 5}, {10, 2, 6}, {11, 0, 5}, {11, 1, 6}, {0, 0, 0}, {1, 0, 0}, {0, 1, 0},
            {65535, 0, 32767}, {65535, 1, 0}, {65535, 2, 0}, {65535, 3, 1}, {0, -1, 32767}, {0, -2, 32767},
            {0, -3, 32766}, {4, -5, 32767}, {65534, 65534, 32766}, {4, 65536, 2}, {4, Integer.MIN_VALUE, 2},
            {4, Integer.MAX_VALUE, 1}
        };
        for (int[] row : rows) {
            for (int ctx = 0; ctx < 4; ctx++) {
                RiceAdapt x = Due.stateOf(ctx, row[0], 8);
                String call = "update(" + ctx + ", " + row[1] + ") with A = " + row[0] + ", N = 8";
                Due.equal(call, x.update(ctx, row[1]), 5);
                Due.equal("cell(" + ctx + ") after " + call, x.cell(ctx), row[2]);
            }
        }
        RiceAdapt seven = Due.stateOf(0, 10, 7);
        Due.equal("update(0, 6) with A = 10, N = 7", seven.update(0, 6), 8);
        Due.equal("cell(0) after it: nothing is halved yet", seven.cell(0), 16);
    }

    private static void contextsAreIndependent() {
        for (int ctx = 0; ctx < 4; ctx++) {
            RiceAdapt x = new RiceAdapt();
            int[] want = {4, 4, 4, 4, 1, 1, 1, 1};
            int[] sums = {14, 24, 34, 44, 54, 64, 74, 42, 52};
            int[] counts = {2, 3, 4, 5, 6, 7, 8, 5, 6};
            for (int i = 0; i < sums.length; i++) {
                x.update(ctx, 10);
                want[ctx] = sums[i];
                want[ctx + 4] = counts[i];
                Due.cells("update " + (i + 1) + " of context " + ctx, x, want);
            }
        }
    }

    private static void invalidContexts() {
        RiceAdapt x = Due.stateOf(3, 70, 8);
        for (int ctx : Due.NOT_A_CONTEXT) {
            for (int m : Due.VALUES) {
                Due.equal("update(" + ctx + ", " + m + ")", x.update(ctx, m), -1);
                Due.cells("update(" + ctx + ", " + m + ")", x, 4, 4, 4, 70, 1, 1, 1, 8);
            }
        }
    }

    /** A long run over all contexts against a plain count in longs; the sequence is fixed. */
    private static void longRun() {
        RiceAdapt x = new RiceAdapt();
        int[] want = {4, 4, 4, 4, 1, 1, 1, 1};
        long state = 1;
        for (int i = 0; i < 200000; i++) {
            state = (state * 25214903917L + 11) & 0xFFFFFFFFFFFFL;
            int ctx = (int) (state >>> 45) - 2;
            int m = (int) (state >>> 8) >> (int) (state >>> 40 & 31);
            int due = ctx < 0 || ctx > 3 ? -1 : fold(want, ctx, m);
            String call = "update(" + ctx + ", " + m + "), call " + i;
            Due.equal(call, x.update(ctx, m), due);
            Due.cells(call, x, want);
        }
    }

    private static int fold(int[] want, int ctx, int m) {
        long sum = Math.floorMod((long) want[ctx] + m, 65536L);
        boolean full = want[ctx + 4] == 8;
        want[ctx] = (int) (full ? sum / 2 : sum);
        want[ctx + 4] = full ? 5 : want[ctx + 4] + 1;
        return want[ctx + 4];
    }
}
