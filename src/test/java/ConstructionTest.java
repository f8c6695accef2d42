/** Promise 1: the starting state, and the ranges that the cells never leave. */
public final class ConstructionTest {
    public static void main(String[] args) {
        startingCells();
        constructorNeverThrows();
        objectsAreSeparate();
        rangesBeforeTheFirstUpdate();
        sumStaysInRange();
        countStaysInRange();
        countIsOneUntilTheFirstUpdate();
        countIsNeverOneAgain();
        startingK();
        Due.end("ConstructionTest");
    }

    private static void startingCells() {
        Due.sentence("every A cell is 4 and every N cell is 1");
        Due.cells(new RiceAdapt(), new int[] {4, 4, 4, 4, 1, 1, 1, 1}, "construction");
    }

    private static void constructorNeverThrows() {
        Due.sentence("the constructor never throws");
        for (int i = 0; i < 100000; i++) {
            boolean threw = false;
            try {
                new RiceAdapt();
            } catch (Throwable t) {
                threw = true;
            }
            Due.holds(!threw, "object %d is made without a throw", i);
        }
    }

    private static void objectsAreSeparate() {
        Due.sentence("new RiceAdapt() creates an object in which every A cell is 4: also beside a used one");
        RiceAdapt first = States.mixed(0);
        RiceAdapt second = new RiceAdapt();
        Due.cells(second, new int[] {4, 4, 4, 4, 1, 1, 1, 1}, "construction of a second object");
        second.update(2, 7);
        Due.cells(first, States.mixedCells(0), "update(2, 7) of a second object");
        Due.cells(second, new int[] {4, 4, 11, 4, 1, 1, 2, 1}, "update(2, 7)");
    }

    private static void rangesBeforeTheFirstUpdate() {
        Due.sentence("at all times after construction A lies in 0..65535, N in 1..8: before the first update");
        RiceAdapt x = new RiceAdapt();
        for (int ctx = 0; ctx < 4; ctx++) {
            Due.within(x.cell(ctx), 0, 65535, "cell(%d) of a new object", ctx);
            Due.within(x.cell(ctx + 4), 1, 8, "cell(%d) of a new object", ctx + 4);
        }
    }

    private static void sumStaysInRange() {
        Due.sentence("at all times after construction A lies in 0..65535: after updates");
        for (int m : Numbers.VALUES) {
            for (int ctx = 0; ctx < 4; ctx++) {
                RiceAdapt x = new RiceAdapt();
                for (int i = 1; i <= 100; i++) {
                    x.update(ctx, m);
                    Due.within(x.cell(ctx), 0, 65535, "cell(%d) after %d of update(%d, %d)", ctx, i, ctx, m);
                }
            }
        }
    }

    /** A byte that only grew would leave the range after 127 updates, an int would not: so 1000. */
    private static void countStaysInRange() {
        Due.sentence("at all times after construction N lies in 1..8; after any update of it, in 2..8");
        for (int ctx = 0; ctx < 4; ctx++) {
            RiceAdapt x = new RiceAdapt();
            for (int i = 1; i <= 1000; i++) {
                x.update(ctx, i);
                Due.within(x.cell(ctx + 4), 2, 8, "cell(%d) after update %d of context %d", ctx + 4, i, ctx);
            }
        }
    }

    private static void countIsOneUntilTheFirstUpdate() {
        Due.sentence("N is 1 only until the first update of that context: no other call ends it");
        for (int ctx = 0; ctx < 4; ctx++) {
            RiceAdapt x = new RiceAdapt();
            for (int i = 0; i < 20; i++) {
                useAllBut(x, ctx, i);
                Due.equal(x.cell(ctx + 4), 1, "cell(%d) before the first update of context %d", ctx + 4, ctx);
            }
            Due.equal(x.update(ctx, 0), 2, "the first update(%d, 0)", ctx);
            Due.equal(x.cell(ctx + 4), 2, "cell(%d) after the first update of context %d", ctx + 4, ctx);
        }
    }

    private static void useAllBut(RiceAdapt x, int ctx, int m) {
        for (int other = -1; other <= 4; other++) {
            if (other != ctx) {
                x.update(other, m);
            }
        }
        x.k(ctx);
        x.codeLen(ctx, m);
        x.cell(ctx);
    }

    private static void countIsNeverOneAgain() {
        Due.sentence("N is 1 only until the first update of that context: never again");
        for (int m : Numbers.VALUES) {
            RiceAdapt x = new RiceAdapt();
            for (int i = 1; i <= 30; i++) {
                x.update(3, m);
                Due.holds(x.cell(7) != 1, "cell(7) is not 1 after %d of update(3, %d)", i, m);
            }
        }
    }

    private static void startingK() {
        Due.sentence("k(ctx) is 2 for every valid context right after construction");
        RiceAdapt x = new RiceAdapt();
        for (int ctx = 0; ctx < 4; ctx++) {
            Due.equal(x.k(ctx), 2, "k(%d) of a new object", ctx);
        }
    }
}
