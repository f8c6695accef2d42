/** Promise 3: the length of a Rice code, never above 32. */
public final class CodeLenTest {
    public static void main(String[] args) {
        examples();
        everyK();
        changesNothing();
        invalidContexts();
        Due.end("CodeLenTest");
    }

    private static void examples() {
        RiceAdapt x = new RiceAdapt();
        int[][] rows = {
            {0, 3}, {1, 3}, {3, 3}, {4, 4}, {7, 4}, {8, 5}, {112, 31}, {115, 31}, {116, 32}, {119, 32},
            {120, 32}, {121, 32}, {Integer.MAX_VALUE, 32}, {-1, 32}, {Integer.MIN_VALUE, 32}
        };
        for (int ctx = 0; ctx < 4; ctx++) {
            for (int[] row : rows) {
                Due.equal("codeLen(" + ctx + ", " + row[0] + ") with k = 2", x.codeLen(ctx, row[0]), row[1]);
            }
        }
        RiceAdapt zero = Due.stateOf(0, 0, 2);
        int[][] rowsOfZero = {
            {0, 1}, {1, 2}, {2, 3}, {30, 31}, {31, 32}, {32, 32}, {33, 32}, {Integer.MAX_VALUE, 32},
            {-1, 32}, {-2, 32}, {-31, 32}, {-32, 32}, {Integer.MIN_VALUE, 32}
        };
        for (int[] row : rowsOfZero) {
            Due.equal("codeLen(0, " + row[0] + ") with k = 0", zero.codeLen(0, row[0]), row[1]);
        }
    }

    /** With N = 2 the sum 2 << k gives k, so that each k that a run can reach, 0 to 15, is met. */
    private static void everyK() {
        for (int k = 0; k <= 15; k++) {
            int ctx = k % 4;
            RiceAdapt x = Due.stateOf(ctx, k == 15 ? 65535 : 2 << k, 2);
            Due.equal("k(" + ctx + ")", x.k(ctx), k);
            for (int q = 0; q <= 40; q++) {
                length(x, ctx, k, q << k);
                length(x, ctx, k, (q << k) - 1);
                length(x, ctx, k, (q << k) + 1);
            }
            for (int m : Due.VALUES) {
                length(x, ctx, k, m);
            }
        }
    }

    /** The due length, counted in longs where a negative m stands for its unsigned value. */
    private static void length(RiceAdapt x, int ctx, int k, int m) {
        long quotient = (m & 0xFFFFFFFFL) / (1L << k);
        long whole = quotient + 1 + k;
        int due = whole > 32 ? 32 : (int) whole;
        String call = "codeLen(" + ctx + ", " + m + ") with k = " + k;
        Due.equal(call, x.codeLen(ctx, m), due);
    }

    private static void changesNothing() {
        RiceAdapt x = Due.stateOf(1, 500, 8);
        for (int ctx = 0; ctx < 4; ctx++) {
            for (int m : Due.VALUES) {
                x.codeLen(ctx, m);
                Due.cells("codeLen(" + ctx + ", " + m + ")", x, 4, 500, 4, 4, 1, 8, 1, 1);
            }
        }
    }

    private static void invalidContexts() {
        RiceAdapt x = Due.stateOf(3, 70, 5);
        for (int ctx : Due.NOT_A_CONTEXT) {
            for (int m : Due.VALUES) {
                Due.equal("codeLen(" + ctx + ", " + m + ")", x.codeLen(ctx, m), -1);
                Due.cells("codeLen(" + ctx + ", " + m + ")", x, 4, 4, 4, 70, 1, 1, 1, 5);
            }
        }
    }
}
