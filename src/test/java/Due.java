/** Compares answers with those that are due, prints each wrong one, and ends the test. */
final class Due {
    static final int[] NOT_A_CONTEXT = {
        -1, -2, -3, -4, -5, -8, -65536, -32769, Integer.MIN_VALUE, Integer.MIN_VALUE + 1,
        4, 5, 6, 7, 8, 9, 15, 16, 32, 256, 260, 65535, 65536, Integer.MAX_VALUE - 1, Integer.MAX_VALUE
    };
    static final int[] NOT_A_CELL = {
        -1, -2, -3, -4, -5, -8, -65536, -32769, Integer.MIN_VALUE, Integer.MIN_VALUE + 1,
        8, 9, 10, 11, 12, 15, 16, 32, 256, 260, 65535, 65536, Integer.MAX_VALUE - 1, Integer.MAX_VALUE
    };
    static final int[] VALUES = {
        0, 1, 2, 3, 4, 5, 7, 8, 31, 32, 115, 116, 119, 120, 121, 127, 128, 255, 256, 32767, 32768,
        65531, 65532, 65535, 65536, 65537, 1 << 20, 1 << 30, Integer.MAX_VALUE,
        -1, -2, -4, -5, -6, -32768, -32769, -65535, -65536, -65537,
        Integer.MIN_VALUE, Integer.MIN_VALUE + 1
    };

    private static final int MOST_PRINTED = 50;
    private static int checks = 0;
    private static int wrong = 0;

    private Due() {
    }

    static void equal(String call, int got, int want) {
        checks++;
        if (got != want) {
            report(call + " answered " + got + ", due is " + want);
        }
    }

    static void within(String call, int got, int least, int most) {
        checks++;
        if (got < least || got > most) {
            report(call + " answered " + got + ", due is " + least + ".." + most);
        }
    }

    static void isTrue(String claim, boolean holds) {
        checks++;
        if (!holds) {
            report("does not hold: " + claim);
        }
    }

    /** The eight cells, as the document orders them: A[0]..A[3], N[0]..N[3]. */
    static void cells(String after, RiceAdapt x, int... want) {
        for (int i = 0; i < 8; i++) {
            checks++;
            int got = x.cell(i);
            if (got != want[i]) {
                report("after " + after + ": cell(" + i + ") answered " + got + ", due is " + want[i]);
            }
        }
    }

    /** An object whose context ctx holds the sum a and the count n, 2..8. */
    static RiceAdapt stateOf(int ctx, int a, int n) {
        RiceAdapt x = new RiceAdapt();
        x.update(ctx, a - 4);
        for (int i = 2; i < n; i++) {
            x.update(ctx, 0);
        }
        return x;
    }

    static void end(String test) {
        System.out.println(test + ": " + checks + " checks, " + wrong + " wrong");
        if (wrong != 0 || checks == 0) {
            System.exit(1);
        }
    }

    private static void report(String what) {
        wrong++;
        if (wrong <= MOST_PRINTED) {
            System.out.println(what);
        }
    }
}
