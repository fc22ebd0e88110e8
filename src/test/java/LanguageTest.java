import java.io.IOException;
import java.nio.file.Files;
import java.nio.file.Path;
import java.util.Map;
import java.util.Set;

/**
 * The class keeps to LANGUAGE.md, as far as its text shows it. So that this says something, the reading of the rules
 * is tried on small classes first: on some that break a rule, and on some that use what the rules allow.
 */
public final class LanguageTest {
    private static final Path SOURCE = Path.of("src/main/java/FrequentSets.java");

    private static final Due due = new Due();

    public static void main(String[] args) throws IOException {
        oneClass();
        types();
        library();
        arrays();
        arraysAllowed();
        staticFields();
        ruledOutWords();
        recursion();
        loopsWithoutEnd();
        loopsWithEnd();
        wordsAllowed();
        sizes();
        theClass();
        due.end();
    }

    private static void theClass() throws IOException {
        keeps(SOURCE.toString(), Files.readString(SOURCE));
    }

    private static void keeps(String name, String text) throws IOException {
        Map<Integer, Set<String>> breaches = Rules.breachesIn(text);
        due.is("breaches " + breaches + " in " + name, breaches.size(), 0);
    }

    private static void breaks(int rule, String text) throws IOException {
        Map<Integer, Set<String>> breaches = Rules.breachesIn(text);
        due.is("rule " + rule + " seen as broken, of " + breaches.keySet() + ", in " + text,
                breaches.containsKey(rule) ? 1 : 0, 1);
    }

    private static String with(String members) {
        return "public final class FrequentSets { " + members + " }";
    }

    private static void allowed(String members) throws IOException {
        keeps(members, with(members));
    }

    private static void broken(int rule, String members) throws IOException {
        breaks(rule, with(members));
    }

    private static void oneClass() throws IOException {
        breaks(1, "package p; " + with(""));
        breaks(1, with("") + " class Other { }");
        breaks(1, with("") + " interface Other { }");
        breaks(1, "final class FrequentSets { }");
        breaks(1, "public class FrequentSets { }");
        breaks(1, "final class Other { }");
        broken(1, "int a() { return 1; }");
        broken(1, "protected int a() { return 1; }");
        broken(1, "int f;");
        broken(1, "static final int C = 1;");
        broken(1, "public int f;");
        broken(1, "FrequentSets() { }");
        broken(1, "public int a() { return 1; } private int a(int n) { return n; }");
        broken(1, "private static class Inner { }");
        broken(1, "private interface Inner { }");
        broken(1, "private enum Inner { A }");
        broken(1, "private record Inner(int a) { }");
        broken(1, "public int a() { class Inner { } return 1; }");
        allowed("public FrequentSets() { } public int a() { return b(); } private int b() { return 1; }");
        allowed("public int a() { return b(1); } private int b(int n) { return n; } private int b() { return 1; }");
        breaks(Rules.NO_JAVA, "public final class FrequentSets { int }");
        broken(Rules.NO_JAVA, "private boolean f = 1;");
    }

    private static void types() throws IOException {
        for (String type : new String[] {"int", "long", "short", "byte", "char", "boolean"}) {
            allowed("private " + type + " f; private " + type + "[] g = new " + type + "[3];");
            allowed("private void a(" + type + " n) { " + type + " copy = n; }");
        }
        for (String type : new String[] {"float", "double", "String", "Object", "Integer", "FrequentSets"}) {
            broken(2, "private " + type + " f;");
            broken(2, "private void a(" + type + " n) { }");
            broken(2, "private " + type + "[] f;");
        }
        broken(2, "private int[][] f;");
        broken(2, "private int[][] f = new int[3][];");
        broken(2, "public int a() { return (int) 1.5; }");
        broken(2, "public int a() { return (int) 1.5f; }");
        broken(2, "public int a(int n) { return (int) (double) n; }");
        broken(2, "private String a() { return \"x\"; }");
        broken(2, "private FrequentSets a() { return this; }");
        broken(2, "public int a() { var s = \"x\"; return 1; }");
    }

    private static void library() throws IOException {
        breaks(3, "import java.util.List; " + with(""));
        breaks(3, "public final class FrequentSets extends Thread { }");
        breaks(3, "public final class FrequentSets implements Runnable { public void run() { } }");
        broken(3, "public int a(int n) { return Math.abs(n); }");
        broken(3, "public int a() { return Integer.MAX_VALUE; }");
        broken(3, "public int a() { return java.lang.Integer.MAX_VALUE; }");
        broken(3, "public void a() { System.exit(1); }");
        broken(3, "private int[] f = new int[3]; public void a() { java.util.Arrays.fill(f, 1); }");
        broken(3, "public int a() { return hashCode(); }");
        broken(3, "public int a() { return this.hashCode(); }");
        broken(3, "public int a() { return super.hashCode(); }");
        broken(3, "private int[] f = new int[3]; public int a() { return f.clone()[0]; }");
        broken(3, "public long a() { return System.nanoTime(); }");
        broken(3, "@Deprecated public int a() { return 1; }");
        allowed("public static final int C = 1; private int f; public int a() { return this.f + FrequentSets.C; }");
        allowed("private int[] f = new int[3]; public int a() { return f.length; }");
    }

    private static void arrays() throws IOException {
        broken(4, "public void a() { int[] f = new int[3]; }");
        broken(4, "private int[] f; public void a() { f = new int[3]; }");
        broken(4, "private int[] f; { f = new int[3]; }");
        broken(4, "private int[] f = {1, 2};");
        broken(4, "private int[] f = new int[] {1, 2};");
        broken(4, "private int[] f = new int[0];");
        broken(4, "private static final int C = 0; private int[] f = new int[C];");
        broken(4, "private int n = 3; private int[] f = new int[n];");
        broken(4, "private int[] f; public FrequentSets(int n) { f = new int[n]; }");
        broken(4, "private int[] f; public FrequentSets(int n) { if (n > 0) { f = new int[3]; } }");
        broken(4, "private int[] f; public FrequentSets(int n) { f = n > 0 ? new int[3] : new int[4]; }");
        broken(4, "private int[] f; public FrequentSets() { for (int i = 0; i < 3; i++) { f = new int[3]; } }");
        broken(4, "private int[] f = new int[3]; public FrequentSets() { f = new int[4]; }");
        broken(4, "private int[] f; public FrequentSets() { a(); f = new int[3]; } private void a() { }");
        broken(4, "private int[] f = new int[3]; public FrequentSets() { a(f); } private void a(int[] g) { }");
        broken(4, "private int[] f = new int[3]; private int[] a() { return f; }");
        broken(4, "private int[] f = new int[3]; private int[] g = new int[3]; public void a() { f = g; }");
        broken(4, "private int[] f = new int[3]; private int[] g = new int[3];"
                + " public boolean a() { return f == g; }");
        broken(4, "private int[] f = new int[3]; public boolean a() { return f != null; }");
        broken(4, "private int[] f = new int[3]; private int[] g = new int[3];"
                + " public void a() { int[] h = f; for (int i = 0; i < 3; i++) { h = g; } }");
        broken(4, "public int a() { return b(1, 2); } private int b(int... n) { return 1; }");
        broken(4, "public int a() { new FrequentSets(); return 1; }");
    }

    private static void arraysAllowed() throws IOException {
        allowed("private static final int C = 3; private final int[] f = new int[C];"
                + " private long[] g = new long[FrequentSets.C];");
        allowed("private int[] f; private int[] g; public FrequentSets() { f = new int[3]; g = new int[4]; a(); }"
                + " private void a() { }");
        allowed("private int[] f; public FrequentSets() { a(f = new int[3]); } private static void a(int[] g) { }");
        allowed("private int[] f = new int[3]; public int a() { return b(f, 1); }"
                + " private int b(int[] g, int i) { return i >= 0 && i < g.length ? g[i] : 0; }");
        allowed("private int[] f = new int[3]; private int[] g = new int[3];"
                + " public int a(int n) { int[] h = n > 0 ? f : g; h = g; return h[0]; }");
        allowed("private int[] f = new int[3]; public void a() { f[0] = 1; this.f[1] += 2; f[2]++; }");
    }

    private static void staticFields() throws IOException {
        broken(5, "private static int f;");
        broken(5, "private static int f = 3;");
        broken(5, "private static final int F; static { F = 3; }");
        broken(5, "static { }");
        broken(5, "private static final boolean F = true;");
        broken(5, "private static final char F = 'a';");
        broken(5, "private static final int[] F = new int[3];");
        broken(5, "private static final int F = one(); private static int one() { return 1; }");
        allowed("private static final int F = 3; private static final long G = F * 4L + (1 << F);");
        allowed("private int f; { f = 3; }");
    }

    private static void ruledOutWords() throws IOException {
        broken(6, "public void a() { throw new RuntimeException(); }");
        broken(6, "public void a() { try { b(); } finally { b(); } } private void b() { }");
        broken(6, "public void a() { try { b(); } catch (Error e) { b(); } } private void b() { }");
        broken(6, "public void a() throws Exception { }");
        broken(6, "public void a() { synchronized (this) { } }");
        broken(6, "public synchronized void a() { }");
        broken(6, "public void a() { assert true; }");
        broken(6, "public boolean a() { return this instanceof FrequentSets; }");
        broken(6, "public void a() { Runnable r = () -> { }; }");
        broken(6, "public void a() { Runnable r = this::a; }");
        broken(6, "public void a() { FrequentSets x = (FrequentSets) this; }");
        broken(11, "public native int a();");
        allowed("public int a(long n) { return (int) n + (byte) n + (char) n + (short) n; }");
    }

    private static void recursion() throws IOException {
        broken(8, "public int a() { return a(); }");
        broken(8, "public int a() { return b(); } private int b() { return c(); } private int c() { return b(); }");
        broken(8, "public int a() { return this.a(); }");
        allowed("public int a() { return b() + c(); } private int b() { return c(); } private int c() { return 1; }");
    }

    private static void loop(String lines, boolean ends) throws IOException {
        String members = "private int f; private boolean g; public int a(int n) { int i = 0; int j = n; "
                + lines + " return i + j; } private boolean go() { return g; }";
        if (ends) {
            allowed(members);
        } else {
            broken(8, members);
        }
    }

    private static void loopsWithoutEnd() throws IOException {
        loop("for (;;) { if (go()) { break; } }", false);
        loop("while (true) { if (g) { break; } }", false);
        loop("while (go()) { i++; }", false);
        loop("while (i < n) { j++; }", false);
        loop("do { j++; } while (go());", false);
        loop("for (i = 0; i < n; i--) { j++; }", false);
        loop("for (i = n; i > 0; i++) { j++; }", false);
        loop("for (i = 0; i < n; j++) { f++; }", false);
        loop("for (i = 0; i < n || go(); i++) { f++; }", false);
        loop("for (i = 0; i < n; i++) { if (go()) { i--; } }", false);
        loop("for (i = 0; i < n; i++) { i = f; }", false);
        loop("for (i = 0; i < j; i++) { j++; }", false);
        loop("while (i == n) { i++; }", false);
        loop("while (true) { int k = 0; k++; if (k > 3) { break; } }", false);
        loop("while (true) { i++; if (i > 3 && go()) { break; } }", false);
        loop("while (true) { i++; if (i < 3) { break; } }", false);
        loop("while (g) { for (i = 0; i < n; i++) { f++; } }", false);
    }

    private static void loopsWithEnd() throws IOException {
        loop("for (i = 0; i < n; i++) { f++; }", true);
        loop("for (i = n; i > 0; i--) { f++; }", true);
        loop("for (i = n; 0 <= i; i -= 2) { f++; }", true);
        loop("for (i = 0; i != 8; i++) { f++; }", true);
        loop("for (i = 0; i * i <= n; i = i + 1) { f++; }", true);
        loop("for (i = 0; i < n && go(); i++) { f++; }", true);
        loop("for (i = 1; i <= 128; i <<= 1) { f++; }", true);
        loop("for (int k = 0, l = 9; k < l; k++, l--) { f++; }", true);
        loop("for (i = 0; i < n; i++) { for (j = 0; j < i; j++) { f++; } }", true);
        loop("while (i < n) { i++; }", true);
        loop("while ((i < n)) { i += 2; }", true);
        loop("while (i < j) { if (go()) { i++; } else { j--; } }", true);
        loop("while (f > 0) { f--; }", true);
        loop("do { i++; } while (i < n);", true);
        loop("while (true) { i++; if (i >= n) { break; } }", true);
        loop("for (;;) { i++; if (i == 9 || go()) { break; } }", true);
    }

    private static void wordsAllowed() throws IOException {
        allowed("public int a(int n) { switch (n) { case 1: return 2; default: return n > 3 ? 4 : 5; } }");
        allowed("public int a(int n) { return switch (n) { case 1 -> 2; default -> 3; }; }");
        allowed("public int a(int n) { out: for (int i = 0; i < n; i++) { if (i == 3) { continue out; } break out; }"
                + " return n; }");
        allowed("public boolean a(int n, boolean b) { if (n > 0 && b || !b) { return true; } else { return false; } }");
        allowed("public long a(long n) { return (n << 3 ^ ~n >>> 2 | n & 15) * 31 - n / 7 % 5; }");
    }

    private static String chainOf(int methods) {
        StringBuilder chain = new StringBuilder("public int a1() { return a2(); } ");
        for (int n = 2; n < methods; n++) {
            chain.append("private int a" + n + "() { return a" + (n + 1) + "(); } ");
        }
        return chain + "private int a" + methods + "() { return 1; }";
    }

    private static String fields(int number) {
        StringBuilder all = new StringBuilder();
        for (int n = 0; n < number; n++) {
            all.append("private int f" + n + "; ");
        }
        return all.toString();
    }

    private static void sizes() throws IOException {
        String seven = "int a, int b, int c, int d, int e, int f, int g";
        allowed("private int x(" + seven + ") { return a; }");
        broken(10, "private int x(" + seven + ", int h) { return a; }");
        broken(10, "public int a(int n) { return b(b(n)); } private int b(int n) { return n; }");
        broken(10, "public int a(int n) { return b(1 + b(n)); } private int b(int n) { return n; }");
        allowed("public int a(int n) { int m = b(n); return b(m) + b(n); } private int b(int n) { return n; }");
        allowed("public int a() {" + "\n".repeat(59) + "return 1; }");
        broken(10, "public int a() {" + "\n".repeat(80) + "return 1; }");
        allowed(chainOf(6));
        broken(10, chainOf(7));
        allowed("public static final int C = 1; " + fields(40));
        broken(10, fields(50));
    }
}
