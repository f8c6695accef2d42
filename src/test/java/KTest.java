/** Promise 2: k is the smallest shift that brings the count up to the sum. */
public final class KTest {
    public static void main(String[] args) {
        examples();
        everyState();
        everyContext();
        invalidContexts();
        Due.end("KTest");
    }

    private static void examples() {
        Due.equal("k with A = 4, N = 1", new RiceAdapt().k(0), 2);
        Due.equal("k with A = 0, N = 2", Due.stateOf(0, 0, 2).k(0), 0);
        Due.equal("k with A = 1, N = 2", Due.stateOf(0, 1, 2).k(0), 0);
        Due.equal("k with A = 2, N = 2", Due.stateOf(0, 2, 2).k(0), 0);
        Due.equal("k with A = 3, N = 2", Due.stateOf(0, 3, 2).k(0), 1);
        Due.equal("k with A = 8, N = 8", Due.stateOf(0, 8, 8).k(0), 0);
        Due.equal("k with A = 9, N = 8", Due.stateOf(0, 9, 8).k(0), 1);
        Due.equal("k with A = 32768, N = 2", Due.stateOf(0, 32768, 2).k(0), 14);
        Due.equal("k with A = 32769, N = 2", Due.stateOf(0, 32769, 2).k(0), 15);
        Due.equal("k with A = 65535, N = 2", Due.stateOf(0, 65535, 2).k(0), 15);
        Due.equal("k with A = 65535, N = 8", Due.stateOf(0, 65535, 8).k(0), 13);
    }

    /** With N = 1 no call reaches another sum than 4: these are all the other states of a context. */
    private static void everyState() {
        for (int a = 0; a <= 65535; a++) {
            RiceAdapt x = Due.stateOf(0, a, 2);
            for (int n = 2; n <= 8; n++) {
                smallest(x, a, n);
                if (n < 8) {
                    x.update(0, 0);
                }
            }
        }
    }

    private static void smallest(RiceAdapt x, int a, int n) {
        int k = x.k(0);
        String call = "k(0) with A = " + a + ", N = " + n;
        Due.within(call, k, 0, 16);
        long reached = (long) n << k;
        long before = k == 0 ? -1 : (long) n << (k - 1);
        Due.isTrue(call + " = " + k + " reaches A", reached >= a);
        Due.isTrue(call + " = " + k + " is the smallest", before < a);
        Due.equal("cell(0) after " + call, x.cell(0), a);
        Due.equal("cell(4) after " + call, x.cell(4), n);
    }

    private static void everyContext() {
        RiceAdapt x = new RiceAdapt();
        x.update(0, -4);
        x.update(1, 6);
        x.update(2, 1000);
        x.update(3, -5);
        int[] due = {0, 3, 9, 15};
        for (int ctx = 0; ctx < 4; ctx++) {
            Due.equal("k(" + ctx + ")", x.k(ctx), due[ctx]);
            Due.cells("k(" + ctx + ")", x, 0, 10, 1004, 65535, 2, 2, 2, 2);
        }
    }

    private static void invalidContexts() {
        RiceAdapt x = Due.stateOf(3, 70, 5);
        for (int ctx : Due.NOT_A_CONTEXT) {
            Due.equal("k(" + ctx + ")", x.k(ctx), -1);
            Due.cells("k(" + ctx + ")", x, 4, 4, 4, 70, 1, 1, 1, 5);
        }
    }
}
