/** Promise 5: cell reads the sums at 0 to 3 and the counts at 4 to 7. */
public final class CellTest {
    public static void main(String[] args) {
        order();
        wholeRange();
        invalidCells();
        Due.end("CellTest");
    }

    private static void order() {
        RiceAdapt x = new RiceAdapt();
        for (int ctx = 0; ctx < 4; ctx++) {
            for (int i = 0; i <= ctx; i++) {
                x.update(ctx, 10 * (ctx + 1));
            }
        }
        Due.cells("updates of all contexts", x, 14, 44, 94, 164, 2, 3, 4, 5);
        Due.cells("reading all cells", x, 14, 44, 94, 164, 2, 3, 4, 5);
    }

    /** A sum from 32768 upward must not come out negative. */
    private static void wholeRange() {
        for (int a = 0; a <= 65535; a++) {
            int ctx = a % 4;
            RiceAdapt x = Due.stateOf(ctx, a, 2);
            Due.equal("cell(" + ctx + ") with A = " + a, x.cell(ctx), a);
            Due.equal("cell(" + (ctx + 4) + ") with N = 2", x.cell(ctx + 4), 2);
        }
    }

    private static void invalidCells() {
        RiceAdapt x = Due.stateOf(3, 70, 5);
        for (int i : Due.NOT_A_CELL) {
            Due.equal("cell(" + i + ")", x.cell(i), -1);
            Due.cells("cell(" + i + ")", x, 4, 4, 4, 70, 1, 1, 1, 5);
        }
    }
}
