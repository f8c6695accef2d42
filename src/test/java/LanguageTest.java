import java.io.IOException;
import java.nio.file.Files;
import java.nio.file.Path;
import java.util.List;

/** The class keeps to LANGUAGE.md; and the check that tells so finds each breach that is set into a class. */
public final class LanguageTest {
    private static final String FACE =
        "public RiceAdapt() { } public int k(int ctx) { return 0; } public int codeLen(int ctx, int m) { return 0; }"
        + " public int update(int ctx, int m) { return 0; } public int cell(int i) { return 0; }";

    /** The rule's number and a member, beside the face, that breaks it. */
    private static final String[][] WRONG_MEMBERS = {
        {"1", "public static final int LIMIT = 32;"},
        {"1", "int loose;"},
        {"1", "protected int half() { return 1; }"},
        {"1", "int half() { return 1; }"},
        {"1", "public int half() { return 1; }"},
        {"1", "public RiceAdapt(int a) { }"},
        {"1", "private int k(int a, int b) { return a; }"},
        {"1", "private static class Inner { }"},
        {"1", "private interface Inner { }"},
        {"1", "private enum Inner { ONE }"},
        {"1", "private record Inner(int a) { }"},
        {"2", "private double ratio;"},
        {"2", "private int half() { return (int) (1 * 0.5); }"},
        {"2", "private float half(int a) { return a; }"},
        {"2", "private String name;"},
        {"2", "private int[][] table = new int[4][];"},
        {"2", "private Integer boxed;"},
        {"2", "private RiceAdapt other;"},
        {"2", "private void half() { var a = 1L * 2f; }"},
        {"3", "private int most(int a) { return Math.max(a, 1); }"},
        {"3", "private int most() { return Integer.MAX_VALUE; }"},
        {"3", "private int most() { return java.lang.Math.abs(1); }"},
        {"3", "private int most() { return hashCode(); }"},
        {"3", "private int most() { return this.hashCode(); }"},
        {"3", "private int most() { return super.hashCode(); }"},
        {"3", "private int[] a = new int[3]; private void copy() { a.clone(); }"},
        {"3", "private void tell() { System.exit(1); }"},
        {"3", "@Deprecated private int most() { return 1; }"},
        {"4", "private int late() { int[] a = new int[3]; return a[0]; }"},
        {"4", "private int[] a = {1, 2};"},
        {"4", "private int n = 4; private int[] a = new int[n];"},
        {"4", "private int[] a = new int[0];"},
        {"4", "private static final int NONE = 0; private int[] a = new int[NONE];"},
        {"4", "private int[] a = new int[] {1, 2};"},
        {"4", "private int[] a; { a = new int[3]; }"},
        {"4", "private int sum(int... a) { return a[0]; }"},
        {"4", "private int[] a = new int[3]; private int[] b = new int[3];"
            + " private void swap() { int[] c = a; for (int i = 0; i < 9; i++) { c = b; } }"},
        {"4", "private int[] a = 1 > 0 ? new int[3] : new int[4];"},
        {"4", "private int[] a = new int[3]; private int[] all() { return a; }"},
        {"4", "private int[] a = new int[3]; private int[] b = new int[3]; private void swap() { a = b; }"},
        {"4", "private int[] a = new int[3]; private int[] b = new int[3]; private boolean same() { return a == b; }"},
        {"4", "private int[] a = new int[3]; private boolean none() { return a == null; }"},
        {"4", "private int late() { new RiceAdapt(); return 1; }"},
        {"5", "private static int shared;"},
        {"5", "private static int shared = 1;"},
        {"5", "private static final boolean YES = true;"},
        {"5", "private static final int[] TABLE = new int[4];"},
        {"5", "private static final int A; static { A = 1; }"},
        {"6", "private int no(int a) { throw new RuntimeException(); }"},
        {"6", "private int no(int a) { try { return 1; } finally { a = 1; } }"},
        {"6", "private synchronized int no(int a) { return a; }"},
        {"6", "private int no(int a) { synchronized (this) { return a; } }"},
        {"6", "private int no(int a) { assert a > 0; return a; }"},
        {"6", "private boolean no(int a) { return this instanceof RiceAdapt; }"},
        {"6", "private int no(int a) { Runnable r = () -> { }; return a; }"},
        {"6", "private int no(int a) { Runnable r = this::toString; return a; }"},
        {"6", "private int no(int a) { return (Integer) a; }"},
        {"8", "private int again(int a) { return a < 1 ? 0 : again(a - 1); }"},
        {"8", "private int one(int a) { return two(a); } private int two(int a) { return one(a); }"},
        {"8", "private int turn(int a) { while (a > 0) { } return a; }"},
        {"8", "private int turn(int a) { while (true) { a++; if (a > 9) { a = 0; } } }"},
        {"8", "private int turn(int a, boolean on) { do { a--; } while (on); return a; }"},
        {"8", "private boolean done() { return true; } private void turn() { while (!done()) { } }"},
        {"8", "private void turn(boolean on) { while (on) { for (int i = 0; i < 9; i++) { } } }"},
        {"8", "private int turn(int a) { for (;;) { a--; } }"},
        {"8", "private int turn(int a) { for (int i = 0; i < 9; ) { a--; } return a; }"},
        {"8", "private int turn(int a) { for (int i = 0; i < 9; a++) { a--; } return a; }"},
        {"10", "private int many(int a, int b, int c, int d, int e, int f, int g, int h) { return a; }"},
        {"10", "private int one(int a) { return a; } private int two(int a) { return one(one(a)); }"},
        {"10", "private int one(int a) { return a; } private int two(int a) { return one(1 + one(a)); }"},
        {"10", "private int a1() { return 1; } private int a2() { return a1(); } private int a3() { return a2(); }"
            + "private int a4() { return a3(); } private int a5() { return a4(); } private int a6() { return a5(); }"
            + "private int a7() { return a6(); } private int a8() { return a7(); }"},
        {"10", "private int many(int a) {" + "\na++;".repeat(70) + " return a; }"},
        {"10", fields(46)},
    };

    /** Members that the rules allow. */
    private static final String[] RIGHT_MEMBERS = {
        "private static final int A = 1; private static final long B = A << 3; private final int[] a = new int[A];",
        "private static final int A = 1, B = A + 2; private int[] a = new int[2 * B]; private char[] c = new char[9];",
        "private final char[] a = new char[4]; private int length() { return a.length + this.a.length; }",
        "private static final int A = 1; private int name() { return RiceAdapt.A + RiceAdapt.one(2) + this.two(); }"
            + " private static int one(int a) { return a; } private int two() { return 2; }",
        "private int half(int a) { var b = a / 2; final int c = b; return c; }",
        "private int one(int a) { return (byte) a; } private int two(int a) { int b = one(a); return one(b); }",
        "private int one(int a) { return a; } private int one(int a, int b) { return one(a) + b; }",
        "private int two(int[] a) { int[] b = a; return b[0]; }",
        "private int[] a = new int[3], b = new int[3]; private int pick(int i) { int[] c = i > 0 ? a : b; return c[0]; }",
        "private int[] a = new int[3]; private void turn() { for (int i = 0; i < 3; i++) { int[] b = a; b[i] = i; } }",
        "private volatile int seen; private transient int kept; private boolean on = 1 > 0; { seen = 1; }",
        "private int turn(int a) { for (int i = 0; i < 9; i++) { if (i == a || a <= i) { return i; } } return a; }",
        "private int turn(int a) { for (int i = 9; i-- > 0; ) { a++; } return a; }",
        "private int turn(int a) { for (int i = 0, j = 9; i < j; i++, j--) { a++; } return a; }",
        "private int turn(int a) { for (int i = 0; i <= a && i < 9; i += 2) { if (a > 3) { i++; } } return a; }",
        "private int turn(int a) { int i = 0; while (i < 9) { i++; } do { i--; } while (i > 0); return i; }",
        "private int turn(int a) { int i = 0; while (true) { i = i + 1; if (i >= 9) { break; } } return i; }",
        "private int turn(int a) { for (;;) { a++; switch (a & 7) { case 3: return a; default: } } }",
        "private int turn(int a) { while (true) { a++; int b = a & 7; int c = b + 1; if (c == 3) { return a; } } }",
        "private int turn(int a) { boolean on = true; while (on) { a++; on = (a & 7) != 0; } return a; }",
        "private int turn() { out: for (int i = 0; i < 9; i++) { for (;;) { if (i++ > 3) { continue out; } } } return 1; }",
        "private int[] a = new int[3]; private int turn() { int s = 0; for (int one : a) { s += one; } return s; }",
        "private int pick(int a) { switch (a) { case 1: a++; case 2: return 5; default: return 6; } }",
        "private int pick(int a) { return switch (a) { case 1 -> 5; case 2 -> 7; default -> 6; }; }",
        "private int many(int a, int b, int c, int d, int e, int f, int g) { return a; }",
        "private int many(int a) {" + "\na++;".repeat(57) + "\nreturn a;\n}",
        "private int a1() { return 1; } private int a2() { return a1(); } private int a3() { return a2(); }"
            + "private int a4() { return a3(); } private int a5() { return a4(); } private int a6() { return a5(); }",
        fields(40),
    };

    /** Fields and the constructor's body. */
    private static final String[][] RIGHT_CONSTRUCTORS = {
        {"private int[] a; private void fill() { }", "a = new int[3]; fill();"},
        {"private int[] a; private void fill(int b) { }", "this.a = new int[3]; this.fill(1);"},
        {"private int[] a = new int[3]; private static void fill(int[] b) { }", "fill(a);"},
        {"private int[] a; private static int size() { return 3; }", "int b = size(); a = new int[3]; a[0] = b;"},
        {"private int[] a = new int[3];", "super(); for (int i = 0; i < a.length; i++) { a[i] = i; }"},
        {"private int[] a = new int[3];", "int i = 0; while (i < 3) { a[i++] = 4; }"},
    };

    public static void main(String[] args) throws IOException {
        theClass();
        wrongMembers();
        wrongConstructors();
        wrongFiles();
        rightMembers();
        rightConstructors();
        noConstructor();
        finalMethods();
        Due.end("LanguageTest");
    }

    private static String fields(int count) {
        StringBuilder text = new StringBuilder();
        for (int i = 0; i < count; i++) {
            text.append("private int f").append(i).append("; ");
        }
        return text.toString();
    }

    private static String classWith(String members) {
        return "public final class RiceAdapt { " + members + " " + FACE + " }";
    }

    private static String classWith(String members, String constructor) {
        return classWith(members).replace("RiceAdapt() { }", "RiceAdapt() { " + constructor + " }");
    }

    private static void theClass() throws IOException {
        Due.sentence("the class keeps to the rules 1 to 11 of LANGUAGE.md");
        String source = Files.readString(Path.of("src/main/java/RiceAdapt.java"));
        List<String> found = LanguageRules.breaches(source);
        Due.holds(found.isEmpty(), "no breach, but %s", found);
    }

    private static void breaks(String rule, String source) throws IOException {
        List<String> found = LanguageRules.breaches(source);
        boolean told = found.stream().anyMatch(breach -> breach.startsWith("rule " + rule + ":"));
        Due.holds(told, "rule %s is found broken, not %s, in %s", rule, found, source);
    }

    private static void wrongMembers() throws IOException {
        Due.sentence("the check finds a member that breaks a rule");
        for (String[] row : WRONG_MEMBERS) {
            breaks(row[0], classWith(row[1]));
        }
    }

    private static void wrongConstructors() throws IOException {
        Due.sentence("the check finds a constructor that breaks rule 4");
        String fields = "private int[] a; private void fill() { } private void set(int[] b) { }";
        String[] bodies = {
            "for (int i = 0; i < 4; i++) { a = new int[3]; }", "if (1 > 0) { a = new int[3]; }",
            "fill(); a = new int[3];", "a = new int[3]; set(a);", "a = new int[3]; a = new int[4];"
        };
        for (String body : bodies) {
            breaks("4", classWith(fields, body));
        }
    }

    private static void wrongFiles() throws IOException {
        Due.sentence("the check finds a file that breaks a rule");
        String right = classWith("");
        breaks("1", "package here; " + right);
        breaks("1", right + " class Second { }");
        breaks("1", right.replace("final ", ""));
        breaks("1", right.replace("public final", "final"));
        breaks("3", right.replace("RiceAdapt {", "RiceAdapt extends Thread {"));
        breaks("3", right.replace("RiceAdapt {", "RiceAdapt implements Cloneable {"));
        breaks("1", right.replace("public int cell(int i) { return 0; }", ""));
        breaks("1", right.replace("public int k", "int k"));
        breaks("1", right.replace("public int k", "public static int k"));
        breaks("1", right.replace("public int k", "public long k"));
        breaks("1", right.replace("k(int ctx)", "k(long ctx)"));
        breaks("3", "import java.util.Arrays; " + right);
        breaks("5", classWith("static { }"));
    }

    private static void keeps(String source) throws IOException {
        List<String> found = LanguageRules.breaches(source);
        Due.holds(found.isEmpty(), "no breach, not %s, in %s", found, source);
    }

    private static void rightMembers() throws IOException {
        Due.sentence("the check finds nothing wrong with a member that the rules allow");
        for (String members : RIGHT_MEMBERS) {
            keeps(classWith(members));
        }
    }

    private static void rightConstructors() throws IOException {
        Due.sentence("the check finds nothing wrong with a constructor that the rules allow");
        for (String[] row : RIGHT_CONSTRUCTORS) {
            keeps(classWith(row[0], row[1]));
        }
    }

    private static void noConstructor() throws IOException {
        Due.sentence("the check finds nothing wrong with the public constructor that the compiler adds");
        keeps(classWith("").replace("public RiceAdapt() { }", ""));
    }

    private static void finalMethods() throws IOException {
        Due.sentence("the check finds nothing wrong with a final method or parameter");
        keeps(classWith("").replace("public int k(int", "public final int k(final int"));
    }
}
