/** Promise 3: the length of a Rice code, never above 32. */
public final class CodeLenTest {
    public static void main(String[] args) {
        contextBelowZero();
        contextAboveThree();
        currentK();
        quotientWithinTheLimit();
        quotientBelowZero();
        negativeWithLargerK();
        quotientOfExactlyTheLimit();
        quotientAboveTheLimit();
        answerWithinOneAndTheLimit();
        examples();
        changesNothing();
        changesNothingWhenRefused();
        Due.end("CodeLenTest");
    }

    /** With N = 2 the sum 2 << k gives k; 0 to 15 is each k that a run of calls reaches. */
    private static RiceAdapt withK(int ctx, int k) {
        return States.of(ctx, k == 15 ? 65535 : 2 << k, 2);
    }

    private static void contextBelowZero() {
        Due.sentence("if ctx < 0: answers -1, for every m");
        RiceAdapt x = States.mixed(0);
        for (int ctx : Numbers.NOT_A_CONTEXT) {
            for (int m : Numbers.VALUES) {
                if (ctx < 0) {
                    Due.equal(x.codeLen(ctx, m), -1, "codeLen(%d, %d)", ctx, m);
                }
            }
        }
    }

    private static void contextAboveThree() {
        Due.sentence("if ctx > 3: answers -1, for every m");
        RiceAdapt x = States.mixed(0);
        for (int ctx : Numbers.NOT_A_CONTEXT) {
            for (int m : Numbers.VALUES) {
                if (ctx > 3) {
                    Due.equal(x.codeLen(ctx, m), -1, "codeLen(%d, %d)", ctx, m);
                }
            }
        }
    }

    private static void currentK() {
        Due.sentence("k is the value Promise 2 would answer for this context in the current state");
        RiceAdapt x = new RiceAdapt();
        Due.equal(x.codeLen(1, 20), 8, "codeLen(1, 20) with k = 2");
        x.update(1, 96);
        Due.equal(x.codeLen(1, 20), 7, "codeLen(1, 20) with k = 6");
        Due.equal(x.codeLen(2, 20), 8, "codeLen(2, 20) with k = 2, while k(1) is 6");
        x.update(1, -100);
        Due.equal(x.codeLen(1, 20), 21, "codeLen(1, 20) with k = 0");
    }

    private static void quotientWithinTheLimit() {
        Due.sentence("otherwise the answer is q + 1 + k");
        for (int k = 0; k <= 15; k++) {
            int ctx = k % 4;
            RiceAdapt x = withK(ctx, k);
            for (int q = 0; q <= 31 - k; q++) {
                int first = q << k;
                int last = first + (1 << k) - 1;
                Due.equal(x.codeLen(ctx, first), q + 1 + k, "codeLen(%d, %d) with k = %d", ctx, first, k);
                Due.equal(x.codeLen(ctx, last), q + 1 + k, "codeLen(%d, %d) with k = %d", ctx, last, k);
            }
        }
    }

    private static void quotientBelowZero() {
        Due.sentence("when k is 0, every negative m gives q < 0 and the answer is 32");
        for (int ctx = 0; ctx < 4; ctx++) {
            RiceAdapt x = withK(ctx, 0);
            for (int m = -1000; m < 0; m++) {
                Due.equal(x.codeLen(ctx, m), 32, "codeLen(%d, %d) with k = 0", ctx, m);
            }
            for (int m : Numbers.VALUES) {
                if (m < 0) {
                    Due.equal(x.codeLen(ctx, m), 32, "codeLen(%d, %d) with k = 0", ctx, m);
                }
            }
        }
    }

    private static void negativeWithLargerK() {
        Due.sentence("when k is at least 1, a negative m gives 32");
        for (int k = 1; k <= 15; k++) {
            for (int ctx = 0; ctx < 4; ctx++) {
                RiceAdapt x = withK(ctx, k);
                for (int m : Numbers.VALUES) {
                    if (m < 0) {
                        Due.equal(x.codeLen(ctx, m), 32, "codeLen(%d, %d) with k = %d", ctx, m, k);
                    }
                }
            }
        }
    }

    /** One less gives 31: without it an answer of 32 for everything would pass. */
    private static void quotientOfExactlyTheLimit() {
        Due.sentence("when q equals exactly 31 - k, the answer is 32");
        for (int k = 0; k <= 15; k++) {
            for (int ctx = 0; ctx < 4; ctx++) {
                RiceAdapt x = withK(ctx, k);
                int first = (31 - k) << k;
                int last = ((32 - k) << k) - 1;
                Due.equal(x.codeLen(ctx, first - 1), 31, "codeLen(%d, %d) with k = %d", ctx, first - 1, k);
                Due.equal(x.codeLen(ctx, first), 32, "codeLen(%d, %d) with k = %d", ctx, first, k);
                Due.equal(x.codeLen(ctx, last), 32, "codeLen(%d, %d) with k = %d", ctx, last, k);
            }
        }
    }

    private static void quotientAboveTheLimit() {
        Due.sentence("if q > 31 - k, the answer is 32: from one more up to the largest m");
        for (int k = 0; k <= 15; k++) {
            int ctx = k % 4;
            RiceAdapt x = withK(ctx, k);
            for (int q = 32 - k; q <= 100; q++) {
                Due.equal(x.codeLen(ctx, q << k), 32, "codeLen(%d, %d) with k = %d", ctx, q << k, k);
            }
            for (int m : Numbers.VALUES) {
                if (m >> k > 31 - k) {
                    Due.equal(x.codeLen(ctx, m), 32, "codeLen(%d, %d) with k = %d", ctx, m, k);
                }
            }
        }
    }

    private static void answerWithinOneAndTheLimit() {
        Due.sentence("whenever the answer is not -1, it lies in 1..32");
        for (int k = 0; k <= 15; k++) {
            for (int ctx = 0; ctx < 4; ctx++) {
                RiceAdapt x = withK(ctx, k);
                for (int m : Numbers.VALUES) {
                    int got = x.codeLen(ctx, m);
                    Due.within(got, 1, 32, "codeLen(%d, %d) with k = %d", ctx, m, k);
                    Due.equal(got, Model.length(k, m), "codeLen(%d, %d) with k = %d", ctx, m, k);
                }
            }
        }
        Due.equal(withK(0, 0).codeLen(0, 0), 1, "codeLen(0, 0) with k = 0");
    }

    private static void examples() {
        Due.sentence("the examples in the starting state");
        int[][] rows = {{0, 3}, {3, 3}, {4, 4}, {116, 32}, {120, 32}, {-1, 32}};
        RiceAdapt x = new RiceAdapt();
        for (int ctx = 0; ctx < 4; ctx++) {
            for (int[] row : rows) {
                Due.equal(x.codeLen(ctx, row[0]), row[1], "codeLen(%d, %d) with k = 2", ctx, row[0]);
            }
        }
    }

    private static void changesNothing() {
        Due.sentence("codeLen changes nothing, for a valid context");
        for (int turn = 0; turn < 4; turn++) {
            RiceAdapt x = States.mixed(turn);
            for (int ctx = 0; ctx < 4; ctx++) {
                for (int m : Numbers.VALUES) {
                    x.codeLen(ctx, m);
                    Due.cells(x, States.mixedCells(turn), "codeLen(%d, %d)", ctx, m);
                }
            }
        }
    }

    private static void changesNothingWhenRefused() {
        Due.sentence("codeLen changes nothing, whatever the arguments: an invalid context");
        RiceAdapt x = States.mixed(1);
        int[] want = States.mixedCells(1);
        for (int ctx : Numbers.NOT_A_CONTEXT) {
            for (int m : Numbers.VALUES) {
                x.codeLen(ctx, m);
                Due.cells(x, want, "codeLen(%d, %d)", ctx, m);
            }
        }
    }
}
