/** Compares answers with those that are due, prints each wrong one, and ends the test. */
final class Due {
    /** For each sentence: the first broken one must not hide those after it. */
    private static final int MOST_PRINTED = 10;
    private static String sentence = "";
    private static int sentences = 0;
    private static int checks = 0;
    private static int checksBefore = 0;
    private static int wrong = 0;
    private static int wrongBefore = 0;

    private Due() {
    }

    /** Begins the test of one sentence of the document; a wrong answer is told under it. */
    static void sentence(String words) {
        closeSentence();
        sentence = words;
        sentences++;
    }

    /** The call is told only where its answer is wrong: most of the time goes into words otherwise. */
    static void equal(int got, int want, String call, Object... parts) {
        checks++;
        if (got != want) {
            report(String.format(call, parts) + " answered " + got + ", due is " + want);
        }
    }

    static void within(int got, int least, int most, String call, Object... parts) {
        checks++;
        if (got < least || got > most) {
            report(String.format(call, parts) + " answered " + got + ", due is " + least + ".." + most);
        }
    }

    static void holds(boolean claim, String words, Object... parts) {
        checks++;
        if (!claim) {
            report("does not hold: " + String.format(words, parts));
        }
    }

    /** The eight cells, as the document orders them: A[0]..A[3], N[0]..N[3]. */
    static void cells(RiceAdapt x, int[] want, String after, Object... parts) {
        for (int i = 0; i < 8; i++) {
            checks++;
            int got = x.cell(i);
            if (got != want[i]) {
                report("after " + String.format(after, parts) + ": cell(" + i + ") answered " + got
                    + ", due is " + want[i]);
            }
        }
    }

    static void end(String test) {
        closeSentence();
        System.out.println(test + ": " + sentences + " sentences, " + checks + " checks, " + wrong + " wrong");
        if (wrong != 0 || sentences == 0) {
            System.exit(1);
        }
    }

    /** A sentence whose test looked at nothing must not pass for one that holds. */
    private static void closeSentence() {
        if (sentences > 0 && checks == checksBefore) {
            report("nothing was checked");
        }
        checksBefore = checks;
        wrongBefore = wrong;
    }

    private static void report(String what) {
        wrong++;
        if (wrong - wrongBefore <= MOST_PRINTED) {
            System.out.println("[" + sentence + "] " + what);
        }
    }
}
