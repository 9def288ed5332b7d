import java.io.IOException;
import java.nio.file.Files;
import java.nio.file.Path;
import java.util.List;

/**
 * The rules of ../shared/LANGUAGE.md, by their numbers: the class keeps to them, and small programs
 * that break one are found, so that silence tells something. The face (rule 1) is compared by
 * PublicFaceTest too; that no call throws or fails to end (rule 7), by all tests that make calls.
 */
public final class LanguageTest {
    private static final Path SOURCE = Path.of("src/main/java/IntervalAgreement.java");

    public static void main(String[] args) throws IOException {
        Check c = new Check("LanguageTest");
        String source = Files.readString(SOURCE);
        c.holds("signs 1 to 127", source.chars().allMatch(sign -> sign >= 1 && sign <= 127));
        List<String> broken = LanguageRules.brokenIn(source);
        c.holds("the class keeps to the rules: " + broken, broken.isEmpty());
        List<String> none = LanguageRules.brokenIn(program("private int a() { return 1; }"));
        c.holds("a plain program keeps to the rules: " + none, none.isEmpty());
        classes(c);
        typesAndLibrary(c);
        statements(c);
        indexesAndDivisors(c);
        callsAndLoops(c);
        sizes(c);
        c.finish();
    }

    private static String program(String members) {
        return "public final class P { private final int[] row = new int[5]; private int n; "
                + members + " }";
    }

    private static void breaks(Check c, int rule, String members) {
        List<String> broken = LanguageRules.brokenIn(program(members));
        c.holds("rule " + rule + " is broken by " + members + ", found: " + broken,
                broken.size() > 0 && broken.stream().allMatch(one -> one.startsWith(rule + ": ")));
    }

    private static void keeps(Check c, String members) {
        List<String> broken = LanguageRules.brokenIn(program(members));
        c.holds("the rules are kept by " + members + ", found: " + broken, broken.isEmpty());
    }

    private static void classes(Check c) {
        breaks(c, 1, "int seen;");
        breaks(c, 1, "protected int seen() { return 1; }");
        breaks(c, 1, "public static final class Q { }");
        breaks(c, 1, "public int a(int k) { return k; } private int a() { return 1; }");
        breaks(c, 2, "private class Q { }");
        breaks(c, 2, "private void a() { class Q { } }");
        breaks(c, 2, "private void a() { new P() { }; }");
        breaks(c, 2, "private int a() { return () -> 1; }");
        breaks(c, 2, "private int a() { return this::a; }");
        breaks(c, 5, "private static int held = 1;");
        breaks(c, 5, "private static final Q HELD = new Q(); private static final class Q { }");
        breaks(c, 5, "static { }");
        keeps(c, "private static final long MOST = 3; private static final class Q { int k; }");
    }

    private static void typesAndLibrary(Check c) {
        breaks(c, 3, "private double a;");
        breaks(c, 3, "private int[][] a;");
        breaks(c, 3, "private java.util.Random a;");
        breaks(c, 3, "private Long a() { return null; }");
        breaks(c, 3, "private int a(Object k) { return (Integer) k; }");
        breaks(c, 4, "private long a() { return Math.addExact(1L, 2L); }");
        breaks(c, 4, "private int a() { return (int) Math.random(); }");
        breaks(c, 4, "private long a() { return System.nanoTime(); }");
        breaks(c, 4, "private void a() { System.out.println(); }");
        keeps(c, "private long a(long k) { return Math.abs(Math.floorDiv(k, 2L)); }");
    }

    private static void statements(Check c) {
        breaks(c, 6, "private void a() { throw null; }");
        breaks(c, 6, "private void a() throws Error { }");
        breaks(c, 6, "private void a() { try { n = 1; } finally { n = 2; } }");
        breaks(c, 6, "private void a() { synchronized (this) { n = 1; } }");
        breaks(c, 6, "private void a() { assert n > 0; }");
        breaks(c, 6, "private int a() { return hashCode(); }");
        breaks(c, 6, "private boolean a() { return this.equals(this); }");
        breaks(c, 10, "private int a() { return switch (n) { case 1 -> 2; default -> 3; }; }");
    }

    private static void indexesAndDivisors(Check c) {
        breaks(c, 7, "private int a(int k) { return row[k]; }");
        breaks(c, 7, "private int a(int k) { return row[k - 1]; }");
        breaks(c, 7, "private int a(int k) { return 5 / k; }");
        breaks(c, 7, "private int a(int k) { return 5 % k; }");
        breaks(c, 7, "private void a(int k) { n /= k; }");
        breaks(c, 7, "private long a(long k) { return Math.floorDiv(5L, k); }");
        breaks(c, 7, "private int a() { return 5 / 0; }");
        keeps(c, "private int a(int k) { return k >= 0 && k < row.length ? row[k] : 0; }");
        keeps(c, "private int a(int k) { return k > 0 ? 5 / k : 0; }");
        keeps(c, "private int a(int k) { return isNode(k) ? row[k] : 0; }"
                + " private boolean isNode(int k) { return k >= 0 && k < 5; }");
    }

    private static void callsAndLoops(Check c) {
        breaks(c, 8, "private int a() { return a(); }");
        breaks(c, 8, "private int a() { return b(); } private int b() { return a(); }");
        breaks(c, 9, "private void a() { while (true) { n++; } }");
        breaks(c, 9, "private void a() { for (;;) { n++; } }");
        breaks(c, 9, "private void a(int k) { for (int i = 0; i < 9; i += k) { n++; } }");
        breaks(c, 9, "private void a(int k) { while (k < 9) { n++; } }");
        keeps(c, "private void a(int k) { for (int i = 0; i < 9 && k > 0; i += k) { n++; } }");
        keeps(c, "private void a(int k) { int i = 0; while (i < 9) { n++; i++; } }");
        breaks(c, 10, "private void a() { final String b = \"b\"; }");
        breaks(c, 12, "private void a() { for (int i = 0; i < 9; i++) { int[] b = new int[3]; } }");
        breaks(c, 12, "private int[] a() { return new int[3]; }");
    }

    private static void sizes(Check c) {
        breaks(c, 11, "private int a(int a, int b, int d, int e, int f, int g, int h, int i)"
                + " { return 1; }");
        breaks(c, 11, "private void a() { " + "n++;\n".repeat(60) + " }");
        StringBuilder chain = new StringBuilder("private int m0() { return 1; }");
        for (int k = 1; k < 8; k++) {
            chain.append("private int m").append(k).append("() { return m").append(k - 1)
                    .append("(); }");
        }
        keeps(c, chain.toString());
        breaks(c, 11, chain + "private int m8() { return m7(); }");
        StringBuilder fields = new StringBuilder();
        for (int k = 0; k < 18; k++) {
            fields.append("private int f").append(k).append(";");
        }
        keeps(c, fields.toString());
        breaks(c, 11, fields + "private int f18;");
    }
}
