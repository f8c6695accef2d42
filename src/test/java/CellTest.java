/** Promise 5: cell reads the sums at 0 to 3 and the counts at 4 to 7. */
public final class CellTest {
    public static void main(String[] args) {
        sums();
        counts();
        edgesOfTheRanges();
        negative();
        fromEightUpward();
        startingCells();
        changesNothing();
        changesNothingWhenRefused();
        Due.end("CellTest");
    }

    /** A sum from 32768 upward must not come out negative, nor a sum of 65535 as -1. */
    private static void sums() {
        Due.sentence("if 0 <= i <= 3: answers A[i], a value in 0..65535");
        for (int ctx = 0; ctx < 4; ctx++) {
            for (int a = 0; a <= 65535; a++) {
                Due.equal(States.of(ctx, a, 2).cell(ctx), a, "cell(%d) with A = %d", ctx, a);
            }
        }
    }

    private static void counts() {
        Due.sentence("if 4 <= i <= 7: answers N[i - 4], a value in 1..8");
        for (int ctx = 0; ctx < 4; ctx++) {
            Due.equal(new RiceAdapt().cell(ctx + 4), 1, "cell(%d) of a new object", ctx + 4);
            for (int n = 2; n <= 8; n++) {
                Due.equal(States.of(ctx, 100, n).cell(ctx + 4), n, "cell(%d) with N = %d", ctx + 4, n);
            }
        }
    }

    /** All eight cells and the two beside them differ, so that none can stand for another. */
    private static void edgesOfTheRanges() {
        Due.sentence("the first and the last i of each range, and the values next to them");
        RiceAdapt x = new RiceAdapt();
        for (int ctx = 0; ctx < 4; ctx++) {
            for (int i = 0; i <= ctx; i++) {
                x.update(ctx, 10 * (ctx + 1));
            }
        }
        int[] due = {-1, 14, 44, 94, 164, 2, 3, 4, 5, -1};
        for (int i = -1; i <= 8; i++) {
            Due.equal(x.cell(i), due[i + 1], "cell(%d)", i);
        }
    }

    private static void negative() {
        Due.sentence("for any other i, including every negative value: answers -1");
        RiceAdapt x = States.mixed(0);
        for (int i : Numbers.NOT_A_CELL) {
            if (i < 0) {
                Due.equal(x.cell(i), -1, "cell(%d)", i);
            }
        }
        for (long i = Integer.MIN_VALUE; i < 0; i += 997) {
            Due.equal(x.cell((int) i), -1, "cell(%d)", i);
        }
    }

    private static void fromEightUpward() {
        Due.sentence("for any other i, including every value from 8 upward: answers -1");
        RiceAdapt x = States.mixed(0);
        for (int i : Numbers.NOT_A_CELL) {
            if (i > 7) {
                Due.equal(x.cell(i), -1, "cell(%d)", i);
            }
        }
        for (long i = Integer.MAX_VALUE; i >= 8; i -= 997) {
            Due.equal(x.cell((int) i), -1, "cell(%d)", i);
        }
    }

    private static void startingCells() {
        Due.sentence("right after construction cell(0) to cell(3) answer 4, cell(4) to cell(7) answer 1");
        RiceAdapt x = new RiceAdapt();
        for (int i = 0; i <= 7; i++) {
            Due.equal(x.cell(i), i <= 3 ? 4 : 1, "cell(%d) of a new object", i);
        }
    }

    private static void changesNothing() {
        Due.sentence("cell changes nothing, for a cell that is there");
        for (int turn = 0; turn < 4; turn++) {
            RiceAdapt x = States.mixed(turn);
            for (int i = 0; i <= 7; i++) {
                for (int times = 1; times <= 20; times++) {
                    x.cell(i);
                    Due.cells(x, States.mixedCells(turn), "%d of cell(%d)", times, i);
                }
            }
        }
    }

    private static void changesNothingWhenRefused() {
        Due.sentence("cell changes nothing, whatever the argument: any other i");
        for (int turn = 0; turn < 4; turn++) {
            RiceAdapt x = States.mixed(turn);
            for (int i : Numbers.NOT_A_CELL) {
                x.cell(i);
                Due.cells(x, States.mixedCells(turn), "cell(%d)", i);
            }
        }
    }
}
