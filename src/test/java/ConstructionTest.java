/** Promise 1: the starting state, and the ranges that the cells never leave. */
public final class ConstructionTest {
    public static void main(String[] args) {
        startingState();
        objectsAreSeparate();
        rangesAlwaysHold();
        Due.end("ConstructionTest");
    }

    private static void startingState() {
        RiceAdapt x = new RiceAdapt();
        Due.cells("construction", x, 4, 4, 4, 4, 1, 1, 1, 1);
        for (int ctx = 0; ctx < 4; ctx++) {
            Due.equal("k(" + ctx + ") of a new object", x.k(ctx), 2);
        }
    }

    private static void objectsAreSeparate() {
        RiceAdapt first = new RiceAdapt();
        first.update(1, 100);
        RiceAdapt second = new RiceAdapt();
        Due.cells("construction of a second object", second, 4, 4, 4, 4, 1, 1, 1, 1);
        second.update(2, 7);
        Due.cells("update of a second object", first, 4, 104, 4, 4, 1, 2, 1, 1);
    }

    private static void rangesAlwaysHold() {
        for (int m : Due.VALUES) {
            for (int ctx = 0; ctx < 4; ctx++) {
                RiceAdapt x = new RiceAdapt();
                for (int i = 1; i <= 300; i++) {
                    x.update(ctx, m);
                    String after = " after " + i + " of update(" + ctx + ", " + m + ")";
                    Due.within("cell(" + ctx + ")" + after, x.cell(ctx), 0, 65535);
                    Due.within("cell(" + (ctx + 4) + ")" + after, x.cell(ctx + 4), 2, 8);
                }
            }
        }
    }
}
