import java.io.IOException;
import java.nio.file.Files;
import java.nio.file.Path;
import java.util.List;

/** The text of the program against LANGUAGE.md, and that a text against one of its rules would be noticed. */
public final class LanguageTest {
    private static final Path PROGRAM = Path.of("src/main/java/RuleMatcher.java");

    public static void main(String[] args) throws IOException {
        Due.part("the program");
        List<String> faults = Language.faults(Files.readString(PROGRAM));
        Due.due("faults " + faults, faults.size(), 0);
        Due.part("a text without a fault");
        clean("private static final int N = 3; private final int[] a = new int[N]; "
            + "public int f(int k) { for (int i = 0; i < N; i++) { a[i] = g(k); } return a[0] / N; } "
            + "private int g(int k) { int p = 2; while (p > 0 && a[p] < k) { a[p] = (int) 5L; p--; } return p; }");
        oneClass();
        types();
        library();
        arrays();
        staticFields();
        words();
        divisors();
        loops();
        sizes();
        Due.end();
    }

    private static void oneClass() throws IOException {
        Due.part("rule 1");
        wholeFinds(1, "package a; public final class RuleMatcher { }");
        wholeFinds(1, "public final class RuleMatcher { } class Other { }");
        wholeFinds(1, "public class RuleMatcher { }");
        wholeFinds(1, "final class RuleMatcher { }");
        wholeFinds(1, "public final class RuleMatcher implements java.io.Serializable { }");
        finds(1, "private static class Inner { }");
        finds(1, "private interface Inner { }");
        finds(1, "private enum Inner { A }");
        finds(1, "private record Inner(int a) { }");
        finds(1, "int seen() { return 0; }");
        finds(1, "protected int seen() { return 0; }");
        finds(1, "int seen;");
        finds(1, "public int rule() { return 0; } private int rule(int a) { return a; }");
    }

    private static void types() throws IOException {
        Due.part("rule 2");
        finds(2, "private float a;");
        finds(2, "private double[] a = new double[1];");
        finds(2, "private int[][] a;");
        finds(2, "private String a;");
        finds(2, "private Integer a;");
        finds(2, "public int f(Object a) { return 0; }");
        finds(2, "public int f() { var a = 1.5; return 0; }");
        finds(2, "public int f() { return (int) 1.5; }");
    }

    private static void library() throws IOException {
        Due.part("rule 3");
        wholeFinds(3, "import java.util.List; public final class RuleMatcher { }");
        finds(3, "public int f() { return Math.max(1, 2); }");
        finds(3, "public int f() { return Integer.MAX_VALUE; }");
        finds(3, "public int f() { return hashCode(); }");
        finds(3, "private final int[] a = new int[1]; public int f() { return a.hashCode(); }");
        finds(3, "public int f() { return (int) System.nanoTime(); }");
    }

    private static void arrays() throws IOException {
        Due.part("rule 4");
        finds(4, "public int f() { int[] a = new int[1]; return a[0]; }");
        finds(4, "private final int[] a = {1, 2};");
        finds(4, "private final int[] a = new int[0];");
        finds(4, "private int n; private final int[] a = new int[n];");
        finds(4, "private int[] a = new int[1];");
        finds(4, "private final int[] a = new int[1]; private int[] f() { return a; }");
        finds(4, "private final int[] a = new int[1]; private boolean f(int[] b) { return a == b; }");
        finds(4, "private final int[] a = new int[1]; private boolean f() { return a != null; }");
        finds(4, "public int f() { new RuleMatcher(); return 0; }");
    }

    private static void staticFields() throws IOException {
        Due.part("rule 5");
        finds(5, "private static int a;");
        finds(5, "private static final boolean A = true;");
        finds(5, "private static final int[] A = new int[1];");
        finds(5, "private static final int A; static { A = 1; }");
    }

    private static void words() throws IOException {
        Due.part("rule 6");
        finds(6, "public int f() { throw new RuntimeException(); }");
        finds(6, "public int f() { try { return 0; } finally { } }");
        finds(6, "public int f() { synchronized (this) { return 0; } }");
        finds(6, "public int f(int a) { assert a > 0; return 0; }");
        finds(6, "private boolean f(int[] a) { return a instanceof Object; }");
        finds(6, "public int f() { Runnable r = () -> { }; return 0; }");
        finds(6, "private int g() { return 0; } "
            + "public int f() { java.util.function.IntSupplier s = this::g; return 0; }");
        finds(6, "public int f(int[] a) { Object b = (Object) a; return 0; }");
    }

    private static void divisors() throws IOException {
        Due.part("rule 7");
        finds(7, "public int f(int a) { return 1 / a; }");
        finds(7, "private int a; public int f() { return 1 % a; }");
        finds(7, "public int f(int a) { int b = 1; b /= a; return b; }");
        finds(7, "private static final int A = 0; public int f(int b) { b %= A; return b; }");
    }

    private static void loops() throws IOException {
        Due.part("rule 8");
        finds(8, "public int f(int a) { return f(a); }");
        finds(8, "public int f(int a) { return g(a); } private int g(int a) { return f(a); }");
        finds(8, "public int f() { while (true) { } }");
        finds(8, "public int f() { for (;;) { } }");
        finds(8, "public int f(int a) { for (int i = 0; i < a; i--) { } return 0; }");
        finds(8, "public int f(int a) { for (int i = 0; i != a; i++) { } return 0; }");
        finds(8, "public int f(int a) { for (int i = 0; i < a; i++) { i--; } return 0; }");
        finds(8, "public int f(int a) { for (int i = 0; i < a; i++) { a++; } return 0; }");
        finds(8, "public int f(int a) { while (a > 0) { if (a > 5) { a--; } } return 0; }");
        finds(8, "public int f(int a) { while (a > 0) { if (a > 5) { continue; } a--; } return 0; }");
        finds(8, "private int n; private void g() { n++; } "
            + "public int f() { for (int i = 0; i < n; i++) { g(); } return 0; }");
    }

    private static void sizes() throws IOException {
        Due.part("rule 10");
        finds(10, "private int f(int a, int b, int c, int d, int e, int g, int h, int i) { return 0; }");
        finds(10, "public int f(int a) { return a; } public int g() { return f(f(1)); }");
        finds(10, "public int f() { return 0;" + "\n".repeat(61) + "}");
        StringBuilder chain = new StringBuilder("private void c6() { }");
        for (int i = 0; i < 6; i++) {
            chain.append("private void c").append(i).append("() { c").append(i + 1).append("(); }");
        }
        finds(10, chain.toString());
        StringBuilder fields = new StringBuilder();
        for (int i = 0; i <= 40; i++) {
            fields.append("private int a").append(i).append(";");
        }
        finds(10, fields.toString());
    }

    private static void finds(int rule, String members) throws IOException {
        wholeFinds(rule, whole(members));
    }

    private static void clean(String members) throws IOException {
        List<String> faults = Language.faults(whole(members));
        Due.due("faults " + faults, faults.size(), 0);
    }

    private static String whole(String members) {
        return "public final class RuleMatcher { public RuleMatcher() { } " + members + " }";
    }

    private static void wholeFinds(int rule, String text) throws IOException {
        List<String> faults = Language.faults(text);
        boolean found = faults.stream().anyMatch(fault -> fault.startsWith(rule + " "));
        Due.due(text + " has " + faults, found ? 1 : 0, 1);
    }
}
