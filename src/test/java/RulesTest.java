import java.io.IOException;
import java.nio.charset.StandardCharsets;
import java.nio.file.Files;
import java.nio.file.Path;
import java.nio.file.Paths;
import java.util.List;

/**
 * What can be seen of LANGUAGE.md in the class's source, as the compiler reads it (Rules); and that what
 * the rules leave out is seen, by small sources that have it.
 */
public final class RulesTest {
    private static final Path SOURCE = Paths.get("src/main/java/VotesUntouched.java");
    private static final int MOST_WIDTH = 120;

    private static int checks;
    private static int wrong;

    private static void say(String what) {
        wrong++;
        System.out.println("the rules: " + what);
    }

    /** A class of the face's name with members that a rule leaves out: that rule must be named. */
    private static void left(int rule, String members) throws IOException {
        seen(rule, "public final class VotesUntouched {\n" + members + "\n}\n");
    }

    private static void seen(int rule, String source) throws IOException {
        checks++;
        List<String> faults = Rules.faultsOf(source);
        if (faults.stream().noneMatch(f -> f.startsWith(rule + " "))) {
            say("rule " + rule + " is not seen broken in " + source + " but " + faults);
        }
    }

    private static void fine(String members) throws IOException {
        checks++;
        List<String> faults = Rules.faultsOf("public final class VotesUntouched {\n" + members + "\n}\n");
        if (!faults.isEmpty()) {
            say("nothing is wrong with " + members + " but " + faults);
        }
    }

    public static void main(String[] args) throws IOException {
        String source = Files.readString(SOURCE, StandardCharsets.ISO_8859_1);
        Rules.faultsOf(source).forEach(RulesTest::say);
        checks++;
        for (String line : source.split("\n", -1)) {
            if (line.length() > MOST_WIDTH) {
                say("a line of " + line.length() + ": " + line);
            }
            if (line.chars().anyMatch(c -> c < 32 || c > 126)) {
                say("a sign that is not plain: " + line);
            }
        }
        face();
        typesAndFields();
        library();
        signs();
        recursionAndLoops();
        sizes();
        System.out.println("the rules: " + checks + " checks, " + wrong + " wrong");
        if (wrong != 0) {
            System.exit(1);
        }
    }

    private static void face() throws IOException {
        seen(1, "package p; public final class VotesUntouched { }");
        seen(1, "public class VotesUntouched { }");
        seen(1, "public final class VotesUntouched { } class Other { }");
        left(1, "int seen;");
        left(1, "protected int seen() { return 1; }");
        left(1, "public int may() { return may(1); } private int may(int x) { return x; }");
        left(1, "public static final class Seen { }");
        left(2, "private final class Inner { }");
        left(2, "public int f() { class Local { } return 1; }");
        left(2, "interface One { int one(); } public int f() { One o = () -> 1; return o.one(); }");
        left(2, "interface One { int one(); } private static int g() { return 1; }"
            + "public int f() { One o = VotesUntouched::g; return o.one(); }");
        left(2, "interface One { int one(); } public int f() { One o = new One() { public int one() { return 1; } }; return o.one(); }");
    }

    private static void typesAndFields() throws IOException {
        left(3, "private java.util.HashMap<Integer, Integer> m;");
        left(3, "private final int[][][] cube = null;");
        left(3, "private final String[][] texts = null;");
        left(3, "private Object o;");
        fine("private final int[][] square = new int[2][3]; private final String[] texts = new String[2];");
        left(5, "private static int count;");
        left(5, "private static final StringBuilder S = new StringBuilder();");
        left(5, "private static final int[] ROW = new int[4];");
        left(5, "private static final int[] ROW = {1, 2}; public int f() { ROW[0] = 3; return 1; }");
        left(5, "private static final int[] ROW = {1, 2}; public int f() { ROW[0]++; return 1; }");
        left(5, "private static int f() { return 1; } private static final int ONE = f();");
        left(5, "static { }");
        fine("public static final int ONE = 1; private static final int[] ROW = {1, 2}; private static final String S = \"s\";");
    }

    private static void library() throws IOException {
        seen(4, "import java.util.HashMap; public final class VotesUntouched { }");
        left(4, "public long f() { return System.nanoTime(); }");
        left(4, "public int f() { return Math.addExact(1, 2); }");
        left(4, "public int f() { return Integer.parseInt(\"1\"); }");
        left(4, "public int f() { System.out.println(1); return 1; }");
        left(4, "private final Object[] a = null; public int f() { System.arraycopy(a, 0, a, 0, 1); return 1; }");
        fine("private final int[] a = {1}; public int f() { System.arraycopy(a, 0, a, 0, 1); return Math.max(1, Integer.bitCount(2)); }");
        left(12, "public int f() { int[] a = new int[2]; return a.length; }");
        left(12, "public int f() { return new StringBuilder().length(); }");
    }

    private static void signs() throws IOException {
        left(6, "public int f() { throw new IllegalArgumentException(); }");
        left(6, "public int f() { try { return 1; } finally { } }");
        left(6, "public int f() { synchronized (this) { return 1; } }");
        left(6, "public int f() { assert true; return 1; }");
        left(6, "public boolean f(String a, String b) { return a == b; }");
        left(6, "public String toString() { return \"\"; }");
        left(6, "private static final class A { } public A f(A a) { return (A) a; }");
        left(10, "public String f(String a) { return a + 1; }");
        left(10, "public int f(int a) { return switch (a) { case 1: yield 2; default: yield 3; }; }");
        left(10, "public int f(int a) { switch (a) { case 1 -> a++; default -> a--; } return a; }");
        left(7, "public int f(int a, int b) { return a / b; }");
        left(7, "public int f(int a, int b) { a %= b; return a; }");
        left(7, "public int f(int a) { return a / 0; }");
        fine("public int f(int a, int b) { return b == 0 ? 0 : a / b + a % 7; }");
    }

    private static void recursionAndLoops() throws IOException {
        left(8, "private static int f(int x) { return x == 0 ? 0 : f(x - 1); }");
        left(8, "public int f(int depth) { return depth == 0 ? 0 : f(depth - 1); }");
        left(8, "private int g(int depth) { return h(1); } private int h(int x) { return g(x); }");
        fine("private static int f(int depth) { return depth > 4 ? 0 : f(depth + 1); }");
        left(9, "public int f(int x) { for (;;) { if (x > 1) { return 1; } } }");
        left(9, "public int f(int x) { while (true) { if (x > 1) { return 1; } } }");
        left(9, "public int f(int x) { while (x > 1) { } return 1; }");
        left(9, "public int f(int x) { for (int i = 0; x > 1; i++) { } return 1; }");
        fine("public int f(int x) { int i = 0; while (i < x) { i++; } do { i--; } while (i > 0); return i; }");
    }

    private static void sizes() throws IOException {
        left(11, "public int f(int a, int b, int c, int d, int e, int g, int h, int i) { return 1; }");
        left(11, "public int f(int x) {\n" + "x++;\n".repeat(60) + "return x;\n}");
        fine("public int f(int x) {\n" + "x++;\n".repeat(57) + "return x;\n}");
        StringBuilder fields = new StringBuilder();
        StringBuilder classes = new StringBuilder();
        for (int i = 0; i < 20; i++) {
            fields.append("private int f").append(i).append(";\n");
        }
        fine(fields.toString());
        left(11, fields + "private int more;");
        for (int i = 0; i < 11; i++) {
            classes.append("private static final class C").append(i).append(" { }\n");
        }
        fine(classes.toString());
        left(11, classes + "private static final class More { }");
        StringBuilder chain = new StringBuilder("public int f() { return c1(); }\n");
        for (int i = 1; i < 7; i++) {
            chain.append("private int c").append(i).append("() { return c").append(i + 1).append("(); }\n");
        }
        fine(chain + "private int c7() { return 1; }");
        left(11, chain + "private int c7() { return c8(); } private int c8() { return 1; }");
    }
}
