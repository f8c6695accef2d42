/** Promise 4: update adds, halves at the count 8, and counts on, in one context alone. */
public final class UpdateTest {
    public static void main(String[] args) {
        contextBelowZero();
        contextAboveThree();
        nothingChangesWhenRefused();
        refusedBetweenUpdates();
        addedAsItIs();
        negativeWraps();
        largeWraps();
        wrapExamples();
        leastIntLeavesTheSum();
        countOfEight();
        countOfNotEight();
        sumIsAddedBeforeTheHalving();
        countGrowsByOne();
        answerIsTheNewCount();
        successiveAnswers();
        sumAfterAHalving();
        countFromBeforeTheUpdate();
        firstStepLeavesTheCount();
        otherContextsStay();
        Due.end("UpdateTest");
    }

    private static void contextBelowZero() {
        Due.sentence("if ctx < 0: answers -1, for every m");
        RiceAdapt x = States.mixed(0);
        for (int ctx : Numbers.NOT_A_CONTEXT) {
            for (int m : Numbers.VALUES) {
                if (ctx < 0) {
                    Due.equal(x.update(ctx, m), -1, "update(%d, %d)", ctx, m);
                }
            }
        }
    }

    private static void contextAboveThree() {
        Due.sentence("if ctx > 3: answers -1, for every m");
        RiceAdapt x = States.mixed(0);
        for (int ctx : Numbers.NOT_A_CONTEXT) {
            for (int m : Numbers.VALUES) {
                if (ctx > 3) {
                    Due.equal(x.update(ctx, m), -1, "update(%d, %d)", ctx, m);
                }
            }
        }
    }

    private static void nothingChangesWhenRefused() {
        Due.sentence("an invalid context: no cell of any context is altered, for every m");
        RiceAdapt x = States.mixed(2);
        int[] want = States.mixedCells(2);
        for (int ctx : Numbers.NOT_A_CONTEXT) {
            for (int m : Numbers.VALUES) {
                x.update(ctx, m);
                Due.cells(x, want, "update(%d, %d)", ctx, m);
            }
        }
    }

    /** What a refused call leaves behind unseen would show in the updates after it. */
    private static void refusedBetweenUpdates() {
        Due.sentence("an invalid context: nothing changes, for the updates after it either");
        RiceAdapt x = new RiceAdapt();
        Model due = new Model();
        for (int i = 0; i < 400; i++) {
            int wrong = Numbers.NOT_A_CONTEXT[i % Numbers.NOT_A_CONTEXT.length];
            x.update(wrong, 1000 + i);
            int ctx = i % 4;
            Due.equal(x.update(ctx, i), due.update(ctx, i), "update(%d, %d) after one of %d", ctx, i, wrong);
            Due.cells(x, due.cells, "update(%d, %d)", ctx, i);
        }
    }

    /** Adds m to the sum a with N = 2, where nothing is halved, in each context. */
    private static void adds(int a, int m, int due) {
        for (int ctx = 0; ctx < 4; ctx++) {
            RiceAdapt x = States.of(ctx, a, 2);
            x.update(ctx, m);
            Due.equal(x.cell(ctx), due, "cell(%d) after update(%d, %d) with A = %d", ctx, ctx, m, a);
        }
    }

    private static void addedAsItIs() {
        Due.sentence("m is added as it is (no absolute value is taken)");
        adds(100, 0, 100);
        adds(100, 1, 101);
        adds(100, -1, 99);
        adds(100, -100, 0);
        adds(100, 65435, 65535);
        for (int a = 0; a <= 65535; a += 257) {
            for (int m : Numbers.VALUES) {
                adds(a, m, (int) Math.floorMod((long) a + m, 65536L));
            }
        }
    }

    private static void negativeWraps() {
        Due.sentence("adding a negative m wraps around within 0..65535");
        adds(0, -1, 65535);
        adds(4, -6, 65534);
        adds(0, -32768, 32768);
        adds(0, -65535, 1);
        adds(0, -65536, 0);
        adds(0, -65537, 65535);
        adds(65535, -65536, 65535);
        adds(0, Integer.MIN_VALUE + 1, 1);
    }

    private static void largeWraps() {
        Due.sentence("adding a very large m wraps around within 0..65535");
        adds(4, 65531, 65535);
        adds(4, 65532, 0);
        adds(65535, 65535, 65534);
        adds(65535, 65537, 0);
        adds(0, 1 << 30, 0);
        adds(0, Integer.MAX_VALUE, 65535);
        adds(65535, Integer.MAX_VALUE, 65534);
        adds(65535, Integer.MAX_VALUE - 1, 65533);
    }

    private static void wrapExamples() {
        Due.sentence("the examples of step 1, from the starting state too");
        int[][] rows = {{-5, 65535}, {65536, 4}, {Integer.MIN_VALUE, 4}, {Integer.MAX_VALUE, 3}};
        for (int[] row : rows) {
            for (int ctx = 0; ctx < 4; ctx++) {
                RiceAdapt x = new RiceAdapt();
                x.update(ctx, row[0]);
                Due.equal(x.cell(ctx), row[1], "cell(%d) after update(%d, %d) with A = 4, N = 1", ctx, ctx, row[0]);
            }
            adds(4, row[0], row[1]);
        }
        adds(65535, 1, 0);
    }

    private static void leastIntLeavesTheSum() {
        Due.sentence("m = Integer.MIN_VALUE leaves A unchanged");
        for (int a = 0; a <= 65535; a++) {
            RiceAdapt x = States.of(0, a, 2);
            x.update(0, Integer.MIN_VALUE);
            Due.equal(x.cell(0), a, "cell(0) after update(0, Integer.MIN_VALUE) with A = %d", a);
        }
    }

    /** Updates with m = 0, so that the sum shows the halving alone. */
    private static void countOfEight() {
        Due.sentence("if N equals 8, A is divided by two, rounded down, and N becomes 4");
        for (int ctx = 0; ctx < 4; ctx++) {
            for (int a = 0; a <= 65535; a++) {
                RiceAdapt x = States.of(ctx, a, 8);
                x.update(ctx, 0);
                Due.equal(x.cell(ctx), a / 2, "cell(%d) after update(%d, 0) with A = %d, N = 8", ctx, ctx, a);
                Due.equal(x.cell(ctx + 4), 5, "cell(%d) after update(%d, 0) with A = %d, N = 8", ctx + 4, ctx, a);
            }
        }
    }

    private static void countOfNotEight() {
        Due.sentence("if N is not 8, neither cell is touched in step 2");
        for (int ctx = 0; ctx < 4; ctx++) {
            RiceAdapt fresh = new RiceAdapt();
            fresh.update(ctx, 0);
            Due.equal(fresh.cell(ctx), 4, "cell(%d) after update(%d, 0) with A = 4, N = 1", ctx, ctx);
            Due.equal(fresh.cell(ctx + 4), 2, "cell(%d) after update(%d, 0) with A = 4, N = 1", ctx + 4, ctx);
            for (int n = 2; n <= 7; n++) {
                for (int a : new int[] {0, 1, 9, 32767, 32768, 65534, 65535}) {
                    RiceAdapt x = States.of(ctx, a, n);
                    x.update(ctx, 0);
                    Due.equal(x.cell(ctx), a, "cell(%d) after update(%d, 0) with A = %d, N = %d", ctx, ctx, a, n);
                    Due.equal(x.cell(ctx + 4), n + 1, "cell(%d) after update(%d, 0) with N = %d", ctx + 4, ctx, n);
                }
            }
        }
    }

    /** Rows of A, m and the A that is due: the sum takes in m and wraps, and then is halved. */
    private static void sumIsAddedBeforeTheHalving() {
        Due.sentence("A becomes the new A from step 1 divided by two, rounded down");
        int[][] rows = {
            {10, 1, 5}, {10, 2, 6}, {11, 1, 6}, {0, 1, 0}, {1, 1, 1}, {10, -10, 0}, {10, -9, 0},
            {65535, 1, 0}, {65535, 2, 0}, {65535, 3, 1}, {0, -1, 32767}, {0, -2, 32767}, {0, -3, 32766},
            {4, -5, 32767}, {65534, 65534, 32766}, {65535, 65535, 32767}, {4, 65536, 2}, {4, -65536, 2},
            {4, Integer.MIN_VALUE, 2}, {65535, Integer.MIN_VALUE, 32767}, {4, Integer.MAX_VALUE, 1}
        };
        for (int[] row : rows) {
            for (int ctx = 0; ctx < 4; ctx++) {
                RiceAdapt x = States.of(ctx, row[0], 8);
                x.update(ctx, row[1]);
                Due.equal(x.cell(ctx), row[2], "cell(%d) after update(%d, %d) with A = %d, N = 8",
                    ctx, ctx, row[1], row[0]);
            }
        }
    }

    private static void countGrowsByOne() {
        Due.sentence("N grows by one: after a halving too");
        for (int n = 2; n <= 8; n++) {
            for (int m : Numbers.VALUES) {
                RiceAdapt x = States.of(2, 50, n);
                x.update(2, m);
                Due.equal(x.cell(6), n == 8 ? 5 : n + 1, "cell(6) after update(2, %d) with N = %d", m, n);
            }
        }
    }

    private static void answerIsTheNewCount() {
        Due.sentence("the answer is the new value of N, always in 2..8");
        for (int m : Numbers.VALUES) {
            for (int ctx = 0; ctx < 4; ctx++) {
                RiceAdapt x = new RiceAdapt();
                for (int i = 1; i <= 40; i++) {
                    int got = x.update(ctx, m);
                    Due.within(got, 2, 8, "update %d of update(%d, %d)", i, ctx, m);
                    Due.equal(got, x.cell(ctx + 4), "update %d of update(%d, %d)", i, ctx, m);
                }
            }
        }
    }

    private static void successiveAnswers() {
        Due.sentence("successive updates answer 2, 3, 4, 5, 6, 7, 8, then 5, then 6, 7, 8, 5, and so on");
        int[] first = {2, 3, 4, 5, 6, 7, 8};
        int[] later = {5, 6, 7, 8};
        for (int ctx = 0; ctx < 4; ctx++) {
            RiceAdapt x = new RiceAdapt();
            for (int i = 0; i < 100000; i++) {
                int due = i < 7 ? first[i] : later[(i - 7) % 4];
                Due.equal(x.update(ctx, i), due, "update %d of context %d", i + 1, ctx);
            }
        }
    }

    private static void sumAfterAHalving() {
        Due.sentence("right after an update that halved, A lies in 0..32767");
        for (int a : new int[] {0, 1, 32767, 32768, 65534, 65535}) {
            for (int m : Numbers.VALUES) {
                for (int ctx = 0; ctx < 4; ctx++) {
                    RiceAdapt x = States.of(ctx, a, 8);
                    x.update(ctx, m);
                    Due.within(x.cell(ctx), 0, 32767, "cell(%d) after update(%d, %d) with A = %d, N = 8",
                        ctx, ctx, m, a);
                }
            }
        }
    }

    private static void countFromBeforeTheUpdate() {
        Due.sentence("the test against 8 in step 2 uses the value of N from before this update");
        for (int ctx = 0; ctx < 4; ctx++) {
            RiceAdapt x = States.of(ctx, 10, 7);
            Due.equal(x.update(ctx, 6), 8, "update(%d, 6) with A = 10, N = 7", ctx);
            Due.equal(x.cell(ctx), 16, "cell(%d) after it, not halved yet", ctx);
            Due.equal(x.update(ctx, 6), 5, "update(%d, 6) with A = 16, N = 8", ctx);
            Due.equal(x.cell(ctx), 11, "cell(%d) after it, halved", ctx);
            Due.equal(x.update(ctx, 6), 6, "update(%d, 6) with A = 11, N = 5", ctx);
            Due.equal(x.cell(ctx), 17, "cell(%d) after it, not halved again", ctx);
        }
    }

    private static void firstStepLeavesTheCount() {
        Due.sentence("step 1 never changes N: no wrap-around of A carries into it");
        for (int m : new int[] {65535, 65536, -65536, -1, Integer.MAX_VALUE, Integer.MIN_VALUE}) {
            RiceAdapt x = States.of(0, 65535, 2);
            int[] due = {3, 4, 5, 6, 7, 8, 5};
            for (int n : due) {
                x.update(0, m);
                Due.equal(x.cell(4), n, "cell(4) in a run of update(0, %d)", m);
            }
        }
    }

    private static void otherContextsStay() {
        Due.sentence("the A and N cells of the other three contexts stay exactly as they were");
        for (int turn = 0; turn < 4; turn++) {
            for (int ctx = 0; ctx < 4; ctx++) {
                for (int m : Numbers.VALUES) {
                    othersStay(turn, ctx, m);
                }
            }
        }
    }

    private static void othersStay(int turn, int ctx, int m) {
        RiceAdapt x = States.mixed(turn);
        int[] want = States.mixedCells(turn);
        for (int i = 1; i <= 9; i++) {
            x.update(ctx, m);
            for (int other = 0; other < 4; other++) {
                if (other != ctx) {
                    Due.equal(x.cell(other), want[other], "cell(%d) after %d of update(%d, %d)", other, i, ctx, m);
                    Due.equal(x.cell(other + 4), want[other + 4], "cell(%d) after %d of update(%d, %d)",
                        other + 4, i, ctx, m);
                }
            }
        }
    }
}
