import java.io.IOException;
import java.nio.file.Files;
import java.nio.file.Path;
import java.util.List;

// The source keeps to LANGUAGE.md, as far as a source can show it. A look that finds nothing proves
// nothing unless it can find something, so it is also tried on sources that break one rule each.
public final class LanguageTest {
    private static final Path SOURCE = Path.of("src/main/java/GomoryBranch.java");

    private static int tried = 0;
    private static int wrong = 0;

    private static void keeps(String name, String source) {
        tried++;
        List<String> faults = Language.faults(source);
        if (!faults.isEmpty()) {
            wrong++;
            System.out.println(name + " breaks:");
            faults.forEach(fault -> System.out.println("  " + fault));
        }
    }

    private static void breaks(int rule, String source) {
        tried++;
        List<String> faults = Language.faults(source);
        if (faults.stream().noneMatch(fault -> fault.startsWith("rule " + rule + ":"))) {
            wrong++;
            System.out.println("rule " + rule + " is broken and only this was found: " + faults + " in\n  " + source);
        }
    }

    private static String with(String members) {
        return "public final class GomoryBranch { private int x; private int[] a = new int[2]; " + members + " }";
    }

    private static void breaksWith(int rule, String... members) {
        for (String member : members) {
            breaks(rule, with(member));
        }
    }

    private static void breaksIn(int rule, String... bodies) {
        for (String body : bodies) {
            breaks(rule, with("private int f(int i) { " + body + " }"));
        }
    }

    private static void allowed() {
        keeps("a class with little in it", with(""));
        keeps("every number type", with("private long l; private short s; private byte b; private char c = 'c'; private boolean o;"));
        keeps("casts and wrap-around", with("private int f(long l) { return (int) (l >>> 3) * (byte) 300; }"));
        keeps("an array handed on", with("private int f() { return g(a); } private static int g(int[] b) { return b.length > 0 ? b[0] : 0; }"));
        keeps("arrays made in the constructor", with(
            "private static final int N = 3; private final long[] b; public GomoryBranch(int i) { b = new long[N]; f(); } private void f() { x = 1; }"));
        keeps("a switch, a label and a loop", with(
            "private int f(int i) { out: for (int k = 0; k < i; k++) { switch (k) { case 1: break; default: break out; } } return this.x; }"));
        keeps("seven parameters", with("private int f(int a, int b, int c, int d, int e, int f, int g) { return a; }"));
        keeps("sixty lines", with("private void f() {" + "\n".repeat(59) + "}"));
        keeps("six calls deep", with(chain(6)));
        keeps("forty fields", with(fields(38)));
    }

    private static String chain(int methods) {
        StringBuilder s = new StringBuilder("private int m1() { return 1; } ");
        for (int i = 2; i <= methods; i++) {
            s.append("private int m").append(i).append("() { return m").append(i - 1).append("(); } ");
        }
        return s.toString();
    }

    private static String fields(int count) {
        StringBuilder s = new StringBuilder();
        for (int i = 0; i < count; i++) {
            s.append("private int f").append(i).append("; ");
        }
        return s.toString();
    }

    private static void oneClass() {
        breaks(1, "package p; public final class GomoryBranch { }");
        breaks(1, "public class GomoryBranch { }");
        breaks(1, "final class GomoryBranch { }");
        breaks(1, "public final class GomoryBranch { } class Other { }");
        breaksWith(1, "int f() { return 1; }", "protected int f() { return 1; }", "int y;", "protected int y;", "public int y;",
            "GomoryBranch(int i) { }", "private GomoryBranch(int i) { }", "private static class Inner { }",
            "private interface Inner { }", "private enum Inner { ONE }", "private record Inner(int i) { }",
            "public int f() { return 1; } private int f(int i) { return i; }");
    }

    private static void types() {
        breaksWith(2, "private float y;", "private double f() { return 1; }", "private int f(double d) { return 1; }",
            "private boolean f(int i) { return i < 1.5; }", "private boolean f(int i) { return i < 1f; }",
            "private int f(int i) { return (int) (double) i; }", "private int f(int i) { var d = i * 1.0; return i; }",
            "private int[][] b = new int[2][];", "private double[] b = new double[2];", "private String s;",
            "private int f() { return \"ab\".length(); }", "private Integer y = 1;", "private int f(GomoryBranch g) { return 1; }");
    }

    private static void library() {
        breaks(3, "import java.util.Arrays; public final class GomoryBranch { }");
        breaks(3, "public final class GomoryBranch implements Cloneable { }");
        breaksIn(3, "return Math.abs(i);", "return java.lang.Math.abs(i);", "return Integer.MAX_VALUE;", "System.exit(i); return 1;",
            "return hashCode();", "return this.hashCode();", "return super.hashCode();", "return a.clone()[0];",
            "return a.hashCode();", "return getClass() == getClass() ? 1 : 0;");
    }

    private static void arrays() {
        breaksIn(4, "int[] b = new int[2]; return b[0];", "int[] b = {1, 2}; return b[0];", "a = a; return 1;", "this.a = a; return 1;",
            "return a == a ? 1 : 0;", "return a != null ? 1 : 0;", "int[] b = a; for (int k = 0; k < i; k++) { b = a; } return b[0];",
            "new GomoryBranch(); return 1;");
        breaksWith(4, "private int[] b = {1, 2};", "private int[] b = new int[] {1, 2};", "private int[] b = new int[0];",
            "private int[] b = new int[1 + 1];", "private int[][] b = new int[2][2];", "private int[] f() { return a; }",
            "private int n = 3; private int[] b = new int[n];", "private int[] b = true ? new int[2] : new int[3];",
            "private int[] b; public GomoryBranch(int i) { b = new int[i]; }",
            "private int[] b; public GomoryBranch(int i) { if (i > 0) { b = new int[2]; } }",
            "private int[] b; public GomoryBranch(int i) { for (int k = 0; k < i; k++) { b = new int[2]; } }",
            "private int[] b; public GomoryBranch(int i) { f(); b = new int[2]; } private void f() { x = 1; }",
            "public GomoryBranch(int i) { f(a); } private void f(int[] b) { x = 1; }");
    }

    private static void statics() {
        breaksWith(5, "private static int y;", "private static int y = 1;", "private static final boolean Y = true;",
            "private static final short Y = 1;", "private static final int[] Y = new int[2];", "static { }",
            "private static final int Y = f(); private static int f() { return 1; }");
    }

    private static void statements() {
        breaksIn(6, "throw new RuntimeException();", "try { i++; } finally { i++; } return i;",
            "try { i++; } catch (RuntimeException e) { i++; } return i;", "synchronized (this) { return i; }", "assert i > 0; return i;",
            "Object o = this; return o instanceof GomoryBranch ? 1 : 0;", "Runnable r = () -> { }; return i;",
            "Runnable r = this::notify; return i;", "Object o = this; return ((GomoryBranch) o).x;");
        breaksWith(6, "private synchronized void f() { x = 1; }", "private void f() throws RuntimeException { x = 1; }");
    }

    private static void loops() {
        breaksIn(8, "return f(i - 1);", "while (i < 3) { i++; } return i;", "do { i++; } while (i < 3); return i;",
            "for (int k : a) { i += k; } return i;",
            "for (;;) { i++; if (i > 3) { return i; } }", "for (int k = 0; k < i; k++) { k--; } return i;",
            "for (int k = 0; k < i; k++) { i++; } return i;", "for (int k = 0; k < x; k++) { this.x += 1; } return i;",
            "for (int k = 0; k < i; i--) { x++; } return i;", "for (int k = 0; k != i; k++) { x++; } return i;",
            "for (int k = 0; k < i; k--) { x++; } return i;");
        breaksWith(8, "private int f() { return g(); } private int g() { return f(); }",
            "private int f() { return g(); } private int g() { return h(); } private int h() { return x > 0 ? f() : 1; }");
    }

    private static void sizes() {
        breaksWith(10, "private int f(int a, int b, int c, int d, int e, int f, int g, int h) { return a; }",
            "private int f(int i) { return i; } private int g() { return f(f(1)); }",
            "private int f(int i) { return i; } private int g() { return f(1 + (x > 0 ? f(1) : 2)); }",
            "private void f() {" + "\n".repeat(60) + "}", chain(7), fields(39));
    }

    public static void main(String[] args) throws IOException {
        keeps("GomoryBranch.java", Files.readString(SOURCE));
        allowed();
        oneClass();
        types();
        library();
        arrays();
        statics();
        statements();
        loops();
        sizes();
        System.out.println(wrong == 0 ? "the source keeps to its rules (" + tried + " sources looked at)" : wrong + " of " + tried + " sources are not judged as due");
        if (wrong != 0) {
            System.exit(1);
        }
    }
}
