import java.io.IOException;
import java.nio.file.Files;
import java.nio.file.Path;
import java.util.Set;

/** The class keeps to the rules of LANGUAGE.md that its text shows; broken texts show that a break would be seen. */
public final class SourceTest {
    private static final Path SOURCE = Path.of("src/main/java/RelationNet.java");

    private static final Checks checks = new Checks();

    public static void main(String[] args) throws IOException {
        Set<String> faults = Rules.faultsOf(Files.readString(SOURCE));
        checks.holds("no fault in " + SOURCE + ", not " + faults, faults.isEmpty());
        soundTexts();
        oneClass();
        typesAndLibrary();
        arrays();
        statics();
        ruledOut();
        loopsAndRecursion();
        sizes();
        checks.end();
    }

    private static Set<String> faultsIn(String members) throws IOException {
        return Rules.faultsOf("public final class RelationNet {\n" + members + "\n}\n");
    }

    private static void sound(String members) throws IOException {
        Set<String> faults = faultsIn(members);
        checks.holds("no fault in " + members + ", not " + faults, faults.isEmpty());
    }

    private static void breaks(int rule, String members) throws IOException {
        seen(rule, members, faultsIn(members));
    }

    private static void seen(int rule, String text, Set<String> faults) {
        boolean found = faults.stream().anyMatch(fault -> fault.startsWith("rule " + rule + ","));
        checks.holds("a break of rule " + rule + " is seen in " + text + ", not " + faults, found);
    }

    private static void soundTexts() throws IOException {
        sound("");
        sound("private static final int N = 3; private final int[] a = new int[N]; public int size() { return a.length; }");
        sound("private final int[] a; public RelationNet(int n) { a = new int[8]; a[0] = n; }");
        sound("private int f(int n) { int s = 0; for (int i = n; i > 0; i--) { s += (byte) i; } return s; }");
        sound("private int f(int n) { return n; } public int g(int n) { int m = f(n); return f(m) + f(n); }");
    }

    private static void oneClass() throws IOException {
        String inPackage = "package p; public final class RelationNet { }";
        seen(1, inPackage, Rules.faultsOf(inPackage));
        String two = "public final class RelationNet { } class Other { }";
        seen(1, two, Rules.faultsOf(two));
        String other = "public record RelationNet(int vars) { }";
        seen(1, other, Rules.faultsOf(other));
        breaks(1, "private enum Kind { A }");
        breaks(1, "private int f() { class Local { } return 0; }");
        breaks(1, "public int size() { return 0; } private int size(int n) { return n; }");
    }

    private static void typesAndLibrary() throws IOException {
        breaks(2, "private float f;");
        breaks(2, "private int f() { double d = 1; return 0; }");
        breaks(2, "private int f(int n) { return n > 0.5 ? 1 : 0; }");
        breaks(2, "private final int[][] a = new int[2][2];");
        breaks(2, "private int f() { return \"a\" == null ? 1 : 0; }");
        breaks(3, "private String name;");
        breaks(3, "private int f(int n) { return Math.max(n, 2); }");
        breaks(3, "private int f(int n) { return Integer.MAX_VALUE; }");
        breaks(3, "private int f() { return hashCode(); }");
        breaks(3, "private int f() { return this.hashCode(); }");
        String imports = "import java.util.List; public final class RelationNet { }";
        seen(3, imports, Rules.faultsOf(imports));
    }

    private static void arrays() throws IOException {
        breaks(4, "private int f() { g(new int[2]); return 0; } private int g(int[] a) { return a.length; }");
        breaks(4, "private int[] a; public RelationNet(int n) { a = new int[n]; }");
        breaks(4, "private int[] a; public RelationNet(int n) { if (n > 0) { a = new int[2]; } }");
        breaks(4, "private int[] a; public RelationNet(int n) { for (int i = 0; i < 2; i++) { a = new int[2]; } }");
        breaks(4, "private final int[] a = new int[0];");
        breaks(4, "private final int[] a = {1, 2};");
        breaks(4, "private final int[] a = new int[2]; private int[] f() { return a; }");
        breaks(4, "private int[] a = new int[2]; private int[] b = new int[2]; private int f() { a = b; return 0; }");
        breaks(4, "private int[] a = new int[2]; private int[] b = new int[2]; private int f() { return a == b ? 1 : 0; }");
        breaks(4, "private final int[] a = new int[2]; private int f() { int[] b = a; return b[0]; }");
        breaks(4, "private int f() { new RelationNet(); return 0; }");
    }

    private static void statics() throws IOException {
        breaks(5, "private static int made = 0;");
        breaks(5, "private static final boolean ON = true;");
        breaks(5, "private static final int[] A = new int[2];");
        breaks(5, "private static final int N = f(); private static int f() { return 1; }");
        breaks(5, "static { }");
    }

    private static void ruledOut() throws IOException {
        breaks(6, "private int f(int n) { assert n > 0; return n; }");
        breaks(6, "private int f(int n) { try { return n; } finally { n = 0; } }");
        breaks(6, "private int f(int n) { throw null; }");
        breaks(6, "private int f(int n) { synchronized (this) { return n; } }");
        breaks(6, "private int f() { return this instanceof RelationNet ? 1 : 0; }");
        breaks(6, "private Runnable f() { return () -> { }; }");
        breaks(6, "private Runnable f() { return this::f; }");
        breaks(6, "private int f() { return ((RelationNet) this).f; }");
    }

    private static void loopsAndRecursion() throws IOException {
        breaks(8, "private int f(int n) { while (n > 0) { n = n / 2; } return n; }");
        breaks(8, "private int f(int n) { do { n--; } while (n > 0); return n; }");
        breaks(8, "private int f(int n) { for (;;) { n++; } }");
        breaks(8, "private int f(int n) { for (int i = 0; i < n; i--) { } return n; }");
        breaks(8, "private int f(int n) { for (int i = 0; n > 0; i++) { } return n; }");
        breaks(8, "private int f(int n) { for (int i = 0; i < 9; n++) { } return n; }");
        breaks(8, "private int f(int n) { for (int i = 0; i < 9; i += n) { } return n; }");
        breaks(8, "private int f(int n) { for (int i = 0; i < n; i++) { i = 0; } return n; }");
        breaks(8, "private int f(int n) { for (int i = 0; i < n; i++) { n += 2; } return n; }");
        breaks(8, "private int f(int n) { return f(n); }");
        breaks(8, "private int f(int n) { return g(n); } private int g(int n) { return f(n); }");
    }

    private static void sizes() throws IOException {
        breaks(10, "private int f(int a, int b, int c, int d, int e, int g, int h, int i) { return a; }");
        breaks(10, "private int f(int n) { return n; } private int g(int n) { return f(f(n)); }");
        breaks(10, "private int f(int n) { return n; } private int g(int n) { return f(2 * (1 + f(n))); }");
        breaks(10, "private int f() {" + "\n".repeat(60) + "return 0; }");
        sound("private int f() {" + "\n".repeat(59) + "return 0; }");
        StringBuilder fields = new StringBuilder();
        for (int k = 0; k < 40; k++) {
            fields.append("private int f").append(k).append(";");
        }
        sound(fields.toString());
        breaks(10, fields + "private int last;");
        String sixDeep = "private int a() { return b(); } private int b() { return c(); } private int c() { return d(); }"
            + "private int d() { return e(); } private int e() { return f(); } private int f() { return 0; }";
        sound(sixDeep);
        breaks(10, sixDeep + "private int g() { return a(); }");
    }
}
