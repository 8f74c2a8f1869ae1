import java.nio.file.Files;
import java.nio.file.Path;
import java.util.List;

/** The class keeps to LANGUAGE.md; and LanguageRules finds a breach of each rule where there is one. */
public final class LanguageTest {
    public static void main(String[] args) throws Exception {
        theClass();
        findsBreaches();
        Check.end();
    }

    private static void theClass() throws Exception {
        Check.sentence("The class keeps to LANGUAGE.md");
        List<String> breaches = LanguageRules.breaches(Files.readString(Path.of("src/main/java/JumpPoints.java")));
        Check.due("breaches " + breaches, breaches.size(), 0);
    }

    private static void findsBreaches() throws Exception {
        Check.sentence("LanguageRules finds a breach of each rule");
        fine("private int plain(int x) { return -x; } private void calls() { int y = plain(3); }");
        fine("private final int[] row = new int[9]; private int longer() { return row.length; }");
        fine("private int f(int n) { int s = 0; for (int i = 0; i < n; i++) { s += i; } return s; }");
        source(1, "package p; public final class JumpPoints { }");
        source(1, "public class JumpPoints { }");
        source(1, "public final class JumpPoints { } class Other { }");
        member(1, "private interface Inner { }");
        member(1, "public int a(int x) { return x; } private int a() { return 0; }");
        member(2, "private float f;");
        member(2, "private int[][] f() { return 0; }");
        member(2, "private void f() { var x = 1; }");
        member(2, "private void f() { boolean b = 1 < 2.5; }");
        source(3, "import java.util.List; public final class JumpPoints { }");
        member(3, "private int f(int x) { return Math.abs(x); }");
        member(3, "private int f() { return Integer.MAX_VALUE; }");
        member(3, "private int f() { return hashCode(); }");
        member(4, "private final int[] a = {1, 2};");
        member(4, "private int[] a = new int[3];");
        member(4, "private int n = 3; private final int[] a = new int[n];");
        member(4, "private void f(int n) { int[] a = new int[4]; }");
        member(4, "private int[] f(int[] a) { return a; }");
        member(4, "private final int[] a = new int[1]; private boolean f(int[] b) { return a == b; }");
        member(4, "private void f(int[] a) { boolean b = a == null; }");
        member(5, "private static int count;");
        member(5, "private static final int[] A = new int[1];");
        member(5, "private static final boolean ON = true;");
        member(5, "static { }");
        member(6, "private void f() { try { } finally { } }");
        member(6, "private void f(boolean b) { assert b; }");
        member(6, "private synchronized void f() { }");
        member(8, "private void f(int n) { while (n > 0) { n--; } }");
        member(8, "private void f(int n) { for (int i = 0; i < n; i++) { i--; } }");
        member(8, "private void f(int n) { for (;;) { } }");
        member(8, "private int f(int n) { return n > 0 ? f(n - 1) : 0; }");
        member(8, "private void f() { g(); } private void g() { f(); }");
        member(10, "private void f(int a, int b, int c, int d, int e, int g, int h, int i) { }");
        member(10, "private int f(int x) { return x; } private int g() { return h(1 + f(2)); } private int h(int x) { return x; }");
        member(10, "private void a() { b(); } private void b() { c(); } private void c() { d(); }"
            + "private void d() { e(); } private void e() { f(); } private void f() { g(); } private void g() { }");
        member(10, "private void f() { " + "int x = 0; " + "x = 2; ".repeat(60) + " }");
    }

    private static void fine(String members) throws Exception {
        List<String> breaches = LanguageRules.breaches("public final class JumpPoints { " + members + " }");
        Check.due(members + " breaks " + breaches, breaches.size(), 0);
    }

    private static void member(int rule, String members) throws Exception {
        source(rule, "public final class JumpPoints { " + members + " }");
    }

    private static void source(int rule, String source) throws Exception {
        boolean found = false;
        for (String breach : LanguageRules.breaches(source)) {
            found |= breach.startsWith(rule + ": ");
        }
        Check.due("a breach of rule " + rule + " found in " + source, found, true);
    }
}
