/** Promise 2: k is the smallest shift that brings the count up to the sum. */
public final class KTest {
    public static void main(String[] args) {
        contextBelowZero();
        contextAboveThree();
        smallestShift();
        everyContextHasItsOwn();
        sumNotAboveCount();
        sumOfZeroOrOne();
        sumJustAboveAShiftedCount();
        neverBelowZeroNorAboveSixteen();
        examples();
        changesNothing();
        changesNothingWhenRefused();
        Due.end("KTest");
    }

    private static void contextBelowZero() {
        Due.sentence("if ctx < 0: answers -1");
        RiceAdapt x = States.mixed(0);
        for (int ctx : Numbers.NOT_A_CONTEXT) {
            if (ctx < 0) {
                Due.equal(x.k(ctx), -1, "k(%d)", ctx);
            }
        }
    }

    private static void contextAboveThree() {
        Due.sentence("if ctx > 3: answers -1");
        RiceAdapt x = States.mixed(0);
        for (int ctx : Numbers.NOT_A_CONTEXT) {
            if (ctx > 3) {
                Due.equal(x.k(ctx), -1, "k(%d)", ctx);
            }
        }
    }

    /** With N = 1 no call reaches another sum than 4: these are all the other states of a context. */
    private static void smallestShift() {
        Due.sentence("the smallest k >= 0 such that (N << k) >= A");
        for (int ctx = 0; ctx < 4; ctx++) {
            for (int a = 0; a <= 65535; a++) {
                smallestShiftFor(ctx, a);
            }
        }
    }

    private static void smallestShiftFor(int ctx, int a) {
        RiceAdapt x = States.of(ctx, a, 2);
        for (int n = 2; n <= 8; n++) {
            int k = x.k(ctx);
            Due.holds(k >= 0 && (long) n << k >= a, "k = %d reaches A = %d with N = %d", k, a, n);
            Due.holds(k == 0 || (long) n << (k - 1) < a, "k = %d is the smallest for A = %d, N = %d", k, a, n);
            if (n < 8) {
                x.update(ctx, 0);
            }
        }
    }

    private static void everyContextHasItsOwn() {
        Due.sentence("the smallest k for N[ctx] and A[ctx]: of that context, not of another");
        int[] due = {2, 1, 8, 15};
        for (int turn = 0; turn < 4; turn++) {
            RiceAdapt x = States.mixed(turn);
            for (int ctx = 0; ctx < 4; ctx++) {
                Due.equal(x.k(ctx), due[(ctx + turn) % 4], "k(%d) of the mixed object %d", ctx, turn);
            }
        }
    }

    private static void sumNotAboveCount() {
        Due.sentence("if A <= N, the answer is 0");
        for (int n = 2; n <= 8; n++) {
            for (int a = 0; a <= n; a++) {
                for (int ctx = 0; ctx < 4; ctx++) {
                    Due.equal(States.of(ctx, a, n).k(ctx), 0, "k(%d) with A = %d, N = %d", ctx, a, n);
                }
            }
        }
    }

    private static void sumOfZeroOrOne() {
        Due.sentence("for example when A is 0 or 1, the answer is 0: also right after a halving");
        for (int m = 0; m <= 3; m++) {
            RiceAdapt x = States.of(0, 0, 8);
            x.update(0, m);
            Due.equal(x.cell(0), m / 2, "cell(0) after the halving of %d", m);
            Due.equal(x.k(0), 0, "k(0) with A = %d, N = 5", m / 2);
        }
    }

    private static void sumJustAboveAShiftedCount() {
        Due.sentence("(N << k) >= A: an A of exactly N << k needs k, one more needs k + 1");
        for (int n = 2; n <= 8; n++) {
            for (int k = 0; n << k < 65535; k++) {
                int a = n << k;
                Due.equal(States.of(1, a, n).k(1), k, "k(1) with A = %d, N = %d", a, n);
                Due.equal(States.of(1, a + 1, n).k(1), k + 1, "k(1) with A = %d, N = %d", a + 1, n);
            }
        }
    }

    /** 16 needs N = 1 beside an A above 32768, which no run of calls reaches: 15 is the most seen here. */
    private static void neverBelowZeroNorAboveSixteen() {
        Due.sentence("the answer for a valid context is always in the range 0..16");
        for (int n = 2; n <= 8; n++) {
            for (int a : new int[] {0, 1, 32767, 32768, 32769, 65534, 65535}) {
                for (int ctx = 0; ctx < 4; ctx++) {
                    Due.within(States.of(ctx, a, n).k(ctx), 0, 16, "k(%d) with A = %d, N = %d", ctx, a, n);
                }
            }
        }
        Due.equal(States.of(0, 65535, 2).k(0), 15, "k(0) with A = 65535, N = 2");
    }

    private static void examples() {
        Due.sentence("the examples that calls can reach");
        Due.equal(new RiceAdapt().k(0), 2, "k(0) with A = 4, N = 1");
        Due.equal(States.of(0, 8, 8).k(0), 0, "k(0) with A = 8, N = 8");
        Due.equal(States.of(0, 9, 8).k(0), 1, "k(0) with A = 9, N = 8");
    }

    private static void changesNothing() {
        Due.sentence("k changes nothing, for a valid context");
        for (int turn = 0; turn < 4; turn++) {
            RiceAdapt x = States.mixed(turn);
            for (int ctx = 0; ctx < 4; ctx++) {
                for (int i = 1; i <= 20; i++) {
                    x.k(ctx);
                    Due.cells(x, States.mixedCells(turn), "%d of k(%d)", i, ctx);
                }
            }
        }
    }

    private static void changesNothingWhenRefused() {
        Due.sentence("k changes nothing, whatever the argument: an invalid context");
        for (int turn = 0; turn < 4; turn++) {
            RiceAdapt x = States.mixed(turn);
            for (int ctx : Numbers.NOT_A_CONTEXT) {
                x.k(ctx);
                Due.cells(x, States.mixedCells(turn), "k(%d)", ctx);
            }
        }
    }
}
