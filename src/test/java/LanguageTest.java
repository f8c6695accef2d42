import java.io.IOException;
import java.nio.file.Files;
import java.nio.file.Path;
import java.util.List;

/** The class keeps to LANGUAGE.md; and the check that tells so finds each breach that is set into a class. */
public final class LanguageTest {
    private static final String FACE =
        "public RiceAdapt() { } public int k(int ctx) { return 0; } public int codeLen(int ctx, int m) { return 0; }"
        + " public int update(int ctx, int m) { return 0; } public int cell(int i) { return 0; }";

    /** The rule's number and a member, beside the face, that breaks it. */
    private static final String[][] WRONG_MEMBERS = {
        {"1", "public static final int LIMIT = 32;"},
        {"1", "int loose;"},
        {"1", "protected int half() { return 1; }"},
        {"1", "int half() { return 1; }"},
        {"1", "public int half() { return 1; }"},
        {"1", "public RiceAdapt(int a) { }"},
        {"1", "private int k(int a, int b) { return a; }"},
        {"1", "private static class Inner { }"},
        {"1", "private interface Inner { }"},
        {"1", "private enum Inner { ONE }"},
        {"1", "private record Inner(int a) { }"},
        {"2", "private double ratio;"},
        {"2", "private int half() { return (int) (1 * 0.5); }"},
        {"2", "private float half(int a) { return a; }"},
        {"2", "private String name;"},
        {"2", "private int[][] table = new int[4][];"},
        {"2", "private Integer boxed;"},
        {"3", "private int most(int a) { return Math.max(a, 1); }"},
        {"3", "private int most() { return Integer.MAX_VALUE; }"},
        {"3", "private int most() { return java.lang.Math.abs(1); }"},
        {"3", "private int most() { return hashCode(); }"},
        {"3", "private int most() { return this.hashCode(); }"},
        {"3", "@Deprecated private int most() { return 1; }"},
        {"4", "private int late() { int[] a = new int[3]; return a[0]; }"},
        {"4", "private int[] a = {1, 2};"},
        {"4", "private int n = 4; private int[] a = new int[n];"},
        {"4", "private int[] a = new int[0];"},
        {"4", "private int[] a = 1 > 0 ? new int[3] : new int[4];"},
        {"4", "private int[] a = new int[3]; private int[] all() { return a; }"},
        {"4", "private int[] a = new int[3]; private int[] b = new int[3]; private void swap() { a = b; }"},
        {"4", "private int[] a = new int[3]; private int[] b = new int[3]; private boolean same() { return a == b; }"},
        {"4", "private int[] a = new int[3]; private boolean none() { return a == null; }"},
        {"4", "private int late() { new RiceAdapt(); return 1; }"},
        {"5", "private static int shared;"},
        {"5", "private static int shared = 1;"},
        {"5", "private static final boolean YES = true;"},
        {"5", "private static final int[] TABLE = new int[4];"},
        {"5", "private static final int A; static { A = 1; }"},
        {"6", "private int no(int a) { throw new RuntimeException(); }"},
        {"6", "private int no(int a) { try { return 1; } finally { a = 1; } }"},
        {"6", "private synchronized int no(int a) { return a; }"},
        {"6", "private int no(int a) { synchronized (this) { return a; } }"},
        {"6", "private int no(int a) { assert a > 0; return a; }"},
        {"6", "private boolean no(int a) { return this instanceof RiceAdapt; }"},
        {"6", "private int no(int a) { Runnable r = () -> { }; return a; }"},
        {"6", "private int no(int a) { Runnable r = this::toString; return a; }"},
        {"6", "private int no(int a) { return (Integer) a; }"},
        {"8", "private int again(int a) { return a < 1 ? 0 : again(a - 1); }"},
        {"8", "private int one(int a) { return two(a); } private int two(int a) { return one(a); }"},
        {"8", "private int turn(int a) { while (a > 0) { a--; } return a; }"},
        {"8", "private int turn(int a) { do { a--; } while (a > 0); return a; }"},
        {"8", "private int turn(int a) { for (;;) { a--; } }"},
        {"8", "private int turn(int a) { for (int i = 0; i < 9; ) { a--; } return a; }"},
        {"8", "private int turn(int a) { for (int i = 0; i < 9; a++) { a--; } return a; }"},
        {"8", "private int turn(int a) { for (int i = 0; i < 9; i++) { i = 0; } return a; }"},
        {"8", "private int turn(int a) { for (int i = 0; i < 9; i++) { i -= 1; } return a; }"},
        {"8", "private int turn(int a) { for (int i = 0; i < 9; i++) { i--; } return a; }"},
        {"8", "private int turn(int a) { for (int i = 0; i < 9; i++) { a = --i; } return a; }"},
        {"10", "private int many(int a, int b, int c, int d, int e, int f, int g, int h) { return a; }"},
        {"10", "private int one(int a) { return a; } private int two(int a) { return one(one(a)); }"},
        {"10", "private int one(int a) { return a; } private int two(int a) { return one(1 + one(a)); }"},
        {"10", "private int a1() { return 1; } private int a2() { return a1(); } private int a3() { return a2(); }"
            + "private int a4() { return a3(); } private int a5() { return a4(); } private int a6() { return a5(); }"
            + "private int a7() { return a6(); }"},
        {"10", "private int many(int a) { " + "a++; ".repeat(70) + "return a; }"},
        {"10", manyFields()},
        {"11", "private volatile int seen;"},
    };

    /** Members that the rules allow. */
    private static final String[] RIGHT_MEMBERS = {
        "private static final int A = 1; private static final long B = A << 3; private final int[] a = new int[A];",
        "private final char[] a = new char[4]; private int length() { return a.length; }",
        "private int turn(int a) { for (int i = 0; i < 9; i++) { if (i == a || a <= i) { return i; } } return a; }",
        "private int one(int a) { return (byte) a; } private int two(int a) { int b = one(a); return one(b); }",
        "private int two(int[] a) { return a[0]; }",
    };

    public static void main(String[] args) throws IOException {
        theClass();
        wrongMembers();
        wrongConstructors();
        wrongFiles();
        rightMembers();
        Due.end("LanguageTest");
    }

    private static String manyFields() {
        StringBuilder text = new StringBuilder();
        for (int i = 0; i <= 40; i++) {
            text.append("private int f").append(i).append("; ");
        }
        return text.toString();
    }

    private static String classWith(String members) {
        return "public final class RiceAdapt { " + members + " " + FACE + " }";
    }

    private static void theClass() throws IOException {
        Due.sentence("the class keeps to the rules 1 to 11 of LANGUAGE.md");
        String source = Files.readString(Path.of("src/main/java/RiceAdapt.java"));
        List<String> found = LanguageRules.breaches(source);
        Due.holds(found.isEmpty(), "no breach: %s", found);
    }

    private static void breaks(String rule, String source) throws IOException {
        List<String> found = LanguageRules.breaches(source);
        boolean told = found.stream().anyMatch(breach -> breach.startsWith("rule " + rule + ":"));
        Due.holds(told, "rule %s is found broken, not %s, in %s", rule, found, source);
    }

    private static void wrongMembers() throws IOException {
        Due.sentence("the check finds a member that breaks a rule");
        for (String[] row : WRONG_MEMBERS) {
            breaks(row[0], classWith(row[1]));
        }
    }

    private static void wrongConstructors() throws IOException {
        Due.sentence("the check finds a constructor that breaks rule 4");
        String fields = "private int[] a; private void fill() { } private void set(int[] b) { } ";
        String[] bodies = {
            "for (int i = 0; i < 4; i++) { a = new int[3]; }", "if (1 > 0) { a = new int[3]; }",
            "fill(); a = new int[3];", "set(a);"
        };
        for (String body : bodies) {
            breaks("4", classWith(fields).replace("RiceAdapt() { }", "RiceAdapt() { " + body + " }"));
        }
    }

    private static void wrongFiles() throws IOException {
        Due.sentence("the check finds a file that breaks a rule");
        String right = classWith("");
        breaks("1", "package here; " + right);
        breaks("1", right + " class Second { }");
        breaks("1", right.replace("final ", ""));
        breaks("1", right.replace("public final", "final"));
        breaks("1", right.replace("RiceAdapt {", "RiceAdapt extends Thread {"));
        breaks("1", right.replace("RiceAdapt {", "RiceAdapt implements Runnable {"));
        breaks("1", right.replace("public int cell(int i) { return 0; }", ""));
        breaks("1", right.replace("public int k", "int k"));
        breaks("3", "import java.util.Arrays; " + right);
        breaks("5", classWith("static { }"));
    }

    private static void rightMembers() throws IOException {
        Due.sentence("the check finds nothing wrong with what the rules allow");
        for (String members : RIGHT_MEMBERS) {
            List<String> found = LanguageRules.breaches(classWith(members));
            Due.holds(found.isEmpty(), "no breach, not %s, in %s", found, members);
        }
    }
}
