/** What the document says of the class as a whole, in "What it is" and "The public face". */
public final class WholeTest {
    public static void main(String[] args) {
        nothingThrows();
        invalidNumbers();
        validContexts();
        invalidContexts();
        contextsAreIndependent();
        resetValue();
        lengthLimit();
        longRun();
        sameCallsSameAnswers();
        Due.end("WholeTest");
    }

    private static void nothingThrows() {
        Due.sentence("nothing in this class ever throws, for any argument values");
        RiceAdapt x = new RiceAdapt();
        for (int number : Numbers.NOT_A_CONTEXT) {
            for (int m : Numbers.VALUES) {
                neverThrows(x, number, m);
            }
        }
        for (int number = 0; number < 4; number++) {
            for (int m : Numbers.VALUES) {
                neverThrows(x, number, m);
            }
        }
    }

    private static void neverThrows(RiceAdapt x, int number, int m) {
        Throwable thrown = null;
        try {
            x.k(number);
            x.codeLen(number, m);
            x.update(number, m);
            x.cell(number);
        } catch (Throwable t) {
            thrown = t;
        }
        Due.holds(thrown == null, "no call with %d and %d throws; thrown was %s", number, m, thrown);
    }

    private static void invalidNumbers() {
        Due.sentence("invalid context or cell numbers are answered with -1");
        RiceAdapt x = new RiceAdapt();
        for (int number : Numbers.NOT_A_CELL) {
            Due.equal(x.k(number), -1, "k(%d)", number);
            Due.equal(x.codeLen(number, 1), -1, "codeLen(%d, 1)", number);
            Due.equal(x.update(number, 1), -1, "update(%d, 1)", number);
            Due.equal(x.cell(number), -1, "cell(%d)", number);
        }
    }

    private static void validContexts() {
        Due.sentence("a valid context is an int ctx with 0 <= ctx <= 3");
        for (int ctx = 0; ctx <= 3; ctx++) {
            RiceAdapt x = new RiceAdapt();
            Due.equal(x.k(ctx), 2, "k(%d)", ctx);
            Due.equal(x.codeLen(ctx, 4), 4, "codeLen(%d, 4)", ctx);
            Due.equal(x.update(ctx, 4), 2, "update(%d, 4)", ctx);
            Due.equal(x.cell(ctx), 8, "cell(%d)", ctx);
        }
    }

    private static void invalidContexts() {
        Due.sentence("any other value, including every negative value, is an invalid context");
        RiceAdapt x = States.mixed(3);
        for (long ctx = Integer.MIN_VALUE; ctx <= Integer.MAX_VALUE; ctx += 997) {
            refused(x, (int) ctx);
        }
        refused(x, -1);
        refused(x, 4);
        refused(x, Integer.MIN_VALUE);
        refused(x, Integer.MAX_VALUE);
        Due.cells(x, States.mixedCells(3), "all the refused calls");
    }

    private static void refused(RiceAdapt x, int ctx) {
        if (ctx < 0 || ctx > 3) {
            Due.equal(x.k(ctx), -1, "k(%d)", ctx);
            Due.equal(x.codeLen(ctx, ctx), -1, "codeLen(%d, %d)", ctx, ctx);
            Due.equal(x.update(ctx, ctx), -1, "update(%d, %d)", ctx, ctx);
        }
    }

    private static void contextsAreIndependent() {
        Due.sentence("an operation on one context never affects the cells of another");
        for (int turn = 0; turn < 4; turn++) {
            for (int ctx = 0; ctx < 4; ctx++) {
                for (int m : Numbers.VALUES) {
                    RiceAdapt x = States.mixed(turn);
                    int[] want = States.mixedCells(turn);
                    x.k(ctx);
                    x.codeLen(ctx, m);
                    x.cell(ctx);
                    x.cell(ctx + 4);
                    x.update(ctx, m);
                    want[ctx] = x.cell(ctx);
                    want[ctx + 4] = x.cell(ctx + 4);
                    Due.cells(x, want, "k, codeLen, cell and update of context %d with %d", ctx, m);
                }
            }
        }
    }

    private static void resetValue() {
        Due.sentence("an update that finds the count equal to 8 adds m to A, halves A and N, then counts on");
        for (int ctx = 0; ctx < 4; ctx++) {
            RiceAdapt x = new RiceAdapt();
            for (int i = 1; i <= 7; i++) {
                x.update(ctx, 10);
            }
            Due.equal(x.cell(ctx), 74, "cell(%d) after 7 of update(%d, 10)", ctx, ctx);
            Due.equal(x.cell(ctx + 4), 8, "cell(%d) after 7 of update(%d, 10)", ctx + 4, ctx);
            x.update(ctx, 11);
            Due.equal(x.cell(ctx), 42, "cell(%d) after update(%d, 11) with A = 74, N = 8", ctx, ctx);
            Due.equal(x.cell(ctx + 4), 5, "cell(%d) after update(%d, 11) with A = 74, N = 8", ctx + 4, ctx);
        }
    }

    private static void lengthLimit() {
        Due.sentence("no code length answered by codeLen exceeds 32");
        for (int turn = 0; turn < 4; turn++) {
            RiceAdapt x = States.mixed(turn);
            for (int ctx = 0; ctx < 4; ctx++) {
                for (long m = Integer.MIN_VALUE; m <= Integer.MAX_VALUE; m += 65521) {
                    Due.holds(x.codeLen(ctx, (int) m) <= 32, "codeLen(%d, %d) is at most 32", ctx, m);
                }
                for (int m = 0; m <= 2000; m++) {
                    Due.holds(x.codeLen(ctx, m) <= 32, "codeLen(%d, %d) is at most 32", ctx, m);
                }
            }
        }
    }

    /** A fixed sequence of numbers, so that a failing run is the same every time. */
    private static long next(long state) {
        return (state * 25214903917L + 11) & 0xFFFFFFFFFFFFL;
    }

    /** The shift makes small and large values of either sign about equally frequent. */
    private static int valueOf(long state) {
        return (int) (state >>> 8) >> (int) (state >>> 40 & 31);
    }

    private static int numberOf(long state) {
        return (int) (state >>> 44) - 4;
    }

    private static void longRun() {
        Due.sentence("all promises together, over a long run of all calls");
        RiceAdapt x = new RiceAdapt();
        Model due = new Model();
        long state = 1;
        for (int i = 0; i < 500000; i++) {
            state = next(state);
            int number = numberOf(state);
            int m = valueOf(state);
            Due.equal(x.k(number), due.k(number), "call %d: k(%d)", i, number);
            Due.equal(x.codeLen(number, m), due.codeLen(number, m), "call %d: codeLen(%d, %d)", i, number, m);
            Due.equal(x.cell(number), due.cell(number), "call %d: cell(%d)", i, number);
            Due.equal(x.update(number, m), due.update(number, m), "call %d: update(%d, %d)", i, number, m);
            Due.cells(x, due.cells, "call %d: update(%d, %d)", i, number, m);
        }
    }

    private static void sameCallsSameAnswers() {
        Due.sentence("LANGUAGE.md, rule 11: the same calls always give the same answers");
        RiceAdapt first = new RiceAdapt();
        RiceAdapt second = new RiceAdapt();
        long state = 2;
        for (int i = 0; i < 20000; i++) {
            state = next(state);
            int number = numberOf(state);
            int m = valueOf(state);
            Due.equal(first.codeLen(number, m), second.codeLen(number, m), "call %d: codeLen(%d, %d)", i, number, m);
            Due.equal(first.update(number, m), second.update(number, m), "call %d: update(%d, %d)", i, number, m);
            Due.equal(first.k(number), second.k(number), "call %d: k(%d)", i, number);
            Due.equal(first.cell(number), second.cell(number), "call %d: cell(%d)", i, number);
        }
    }
}
