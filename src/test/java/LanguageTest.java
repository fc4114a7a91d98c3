import java.io.IOException;
import java.nio.file.Files;
import java.nio.file.Path;
import java.util.List;

/** The class keeps to the rules of LANGUAGE.md that a tool can look at; and each of these looks finds a fault. */
public final class LanguageTest {
    private static final Path CLASS = Path.of("src", "main", "java", "GrandsireLoft.java");

    private static final Check CHECK = new Check("LanguageTest");

    public static void main(String[] args) throws IOException {
        List<String> faults = Language.faultsOf("GrandsireLoft", Files.readString(CLASS));
        CHECK.yes("the class keeps to the rules: " + faults, faults.isEmpty());
        finds();
        CHECK.end();
    }

    private static void finds() {
        none("private int n; public int a(int b) { return b / 2 + n; }");
        finds(1, "private static final int A = 1; int b(int c) { return c; }");
        finds(1, "public int a() { return In.a(); } static final class In { static int a() { return 1; } }");
        finds(1, "final class In { }");
        finds(1, "public static final class In { }");
        finds(1, "protected int a;");
        finds(2, "private static interface In { }");
        finds(2, "private Object a() { return new In() { }; } private static class In { }");
        finds(2, "private interface In { int b(); } public int a() { In c = () -> 1; return c.b(); }");
        finds(2, "private interface In { int b(); } public int a() { In c = this::a; return c.b(); }");
        finds(2, "@Deprecated public int a() { return 1; }");
        finds(3, "private Object a;");
        finds(3, "private int[][][] a;");
        finds(3, "private String[][] a;");
        finds(3, "private java.util.ArrayList<String> a;");
        finds(3, "private java.util.HashMap<In, In> a; private static final class In { }");
        finds(3, "private String[] a = new String[1];");
        finds(4, "private long a() { return System.nanoTime(); }");
        finds(4, "private int a(int b) { return Math.addExact(b, b); }");
        finds(4, "private void a() { new java.util.Random(); }");
        finds(4, "private final java.util.ArrayList<In> a = new java.util.ArrayList<>(9); private static class In { }");
        finds(4, "private final java.util.ArrayList<In> a = null; void b(In c) { a.remove(c); }"
                + " private static final class In { }");
        finds(4, "// \u00e9");
        finds(5, "private static int a;");
        finds(5, "private static final In A = new In(); private static final class In { }");
        finds(5, "static { }");
        finds(5, "{ }");
        finds(6, "private void a() { try { a(); } catch (RuntimeException e) { } }");
        finds(6, "private void a() { throw new NullPointerException(); }");
        finds(6, "private void a(int b) { throw new RuntimeException(\"\" + b); }");
        finds(6, "private void a(RuntimeException b) { throw b; }");
        finds(6, "public X() { throw new IllegalStateException(); }");
        finds(6, "private static final class In { boolean equals(In a) { return true; } }");
        finds(6, "private boolean a(String b, String c) { return b == c; }");
        finds(6, "private void a() { assert true; }");
        finds(6, "private void a() { synchronized (this) { } }");
        finds(7, "private int a(int b) { return 1 / b; }");
        finds(7, "private int a(int b) { b %= b; return b; }");
        finds(7, "private int[] a(int b) { return new int[b]; }");
        finds(7, "private In a(In b) { return (In) b; } private static class In { }");
        finds(8, "private int a(int b) { return b == 0 ? 0 : c(b - 1); } private int c(int b) { return a(b); }");
        finds(9, "private void a() { for (;;) { } }");
        finds(9, "private void a() { while (true) { } }");
        finds(10, "private String a(String b) { return b + b; }");
        finds(10, "private String a(String b) { b += 1; return b; }");
        finds(11, "private void a(int b, int c, int d, int e, int f, int g, int h, int i) { }");
        finds(11, "private void a() { " + "\n".repeat(60) + "}");
        finds(11, manyMembers("private static final class C%d { }", 12));
        finds(11, manyMembers("private int a%d;", 21));
        finds(11, manyMembers("private void a%d() { a%d(); }", 8) + "private void a8() { }");
        none(manyMembers("private void a%d() { a%d(); }", 7) + "private void a7() { }");
        none(manyMembers("private static final class C%d { }", 11) + manyMembers("private int a%d;", 20));
        none("private void a(int b, int c, int d, int e, int f, int g, int h) { " + "\n".repeat(59) + "}");
    }

    /** Members, one for each number from 0 on, with that number and the next one put in. */
    private static String manyMembers(String member, int count) {
        StringBuilder text = new StringBuilder();
        for (int number = 0; number < count; number++) {
            text.append(String.format(member, number, number + 1)).append('\n');
        }
        return text.toString();
    }

    private static List<String> faultsOf(String members) {
        return Language.faultsOf("X", "public final class X { " + members + "\n}");
    }

    private static void none(String members) {
        List<String> faults = faultsOf(members);
        CHECK.yes("no fault in " + members + ": " + faults, faults.isEmpty());
    }

    private static void finds(int rule, String members) {
        List<String> faults = faultsOf(members);
        boolean isFound = faults.stream().anyMatch(fault -> fault.startsWith(rule + ":"));
        CHECK.yes("rule " + rule + " is broken in " + members + ": " + faults, isFound);
    }
}
