import java.io.IOException;
import java.nio.file.Files;
import java.nio.file.Path;
import java.util.TreeSet;

/** The rules of LANGUAGE.md that can be seen in the source; and that the reader of the source sees them. */
final class LanguageTest {
    private static final String ROW = "private final int[] row = new int[SIZE]; ";
    private static final String SIZE = "private static final int SIZE = 8; ";

    public static void main(String[] args) throws IOException {
        String source = Files.readString(Path.of("src/main/java/ZipRecover.java"));
        Check.due("what ZipRecover.java breaks", LanguageRules.brokenBy(source).toString(), "[]");
        seen(0, SIZE + ROW + "private int sum(int[] a) { int s = 0; "
                + "for (int i = 0; i < SIZE; i++) { s += a[i]; } return s; }");
        members();
        types();
        arrays();
        statements();
        calls();
        Check.end();
    }

    /** The class of these members breaks this rule and no other; 0 stands for none. */
    private static void seen(int rule, String members) throws IOException {
        seenIn(rule, "public final class ZipRecover { " + members + " }");
    }

    private static void seenIn(int rule, String source) throws IOException {
        Check.due(source, rulesBrokenBy(source).toString(), rule == 0 ? "[]" : "[rule " + rule + "]");
    }

    private static void seenInBody(int rule, String statements) throws IOException {
        seen(rule, SIZE + ROW + "private int other() { return 1; } private int one(int n) { " + statements + " }");
    }

    /** For what can't be written without breaking another rule too. */
    private static void seenAmongOthers(int rule, String statements) throws IOException {
        String source = "public final class ZipRecover { private void one() { " + statements + " } }";
        Check.due(source, rulesBrokenBy(source).contains("rule " + rule), true);
    }

    private static TreeSet<String> rulesBrokenBy(String source) throws IOException {
        TreeSet<String> rules = new TreeSet<>();
        for (String broken : LanguageRules.brokenBy(source)) {
            rules.add(broken.substring(0, broken.indexOf(':')));
        }
        return rules;
    }

    private static void members() throws IOException {
        seenIn(1, "package a; public final class ZipRecover { }");
        seenIn(1, "public final class ZipRecover { } final class Other { }");
        seenIn(1, "public class ZipRecover { }");
        seenIn(1, "final class ZipRecover { }");
        seenIn(1, "public interface ZipRecover { }");
        seenIn(3, "import java.util.List; public final class ZipRecover { }");
        seen(1, "private static final class Inner { }");
        seen(1, "private enum Inner { A }");
        seen(1, "int open;");
        seen(1, "public int open;");
        seen(5, "private static int shared = 1;");
        seen(5, "private static final boolean FLAG = true;");
        seen(5, SIZE + "private static final int[] TABLE = new int[SIZE];");
        seen(5, "static { }");
        StringBuilder fields = new StringBuilder();
        for (int i = 1; i <= 40; i++) {
            fields.append("private int f").append(i).append("; ");
        }
        seen(0, fields.toString());
        seen(10, fields + "private int f41;");
    }

    private static void types() throws IOException {
        seen(2, "private String s;");
        seen(2, "private double d;");
        seen(2, "private int[][] a;");
        seen(2, "private float one() { return 1; }");
        seen(2, "private int one(Object o) { return 1; }");
        seenInBody(2, "int m = (int) (n * 1.5); return m;");
        seenInBody(2, "var m = n; return m;");
        seenInBody(3, "return Math.abs(n);");
        seenInBody(3, "return hashCode();");
        seenInBody(3, "return Integer.MAX_VALUE;");
    }

    private static void arrays() throws IOException {
        seen(4, "private final int[] a = new int[0];");
        seen(4, "private final int[] a = {1, 2};");
        seen(4, "private int n; private final int[] a = new int[n];");
        seen(4, SIZE + ROW + "private int[] one() { return row; }");
        seenInBody(4, "int[] a = new int[8]; return a[0];");
        seenInBody(4, "row = row; return n;");
        seenInBody(4, "this.row = row; return n;");
        seenInBody(4, "return row == null ? 0 : n;");
        seenInBody(4, "int[] a = row; return a != row ? 0 : n;");
        seenInBody(4, "new ZipRecover(n); return n;");
        seenInBody(0, "int[] a = row; return a[0] + row.length + this.row[1];");
    }

    private static void statements() throws IOException {
        seenInBody(6, "assert n > 0; return n;");
        seenInBody(6, "try { n++; } finally { n--; } return n;");
        seenInBody(6, "synchronized (this) { n++; } return n;");
        seenInBody(6, "return this instanceof ZipRecover ? 1 : n;");
        seenAmongOthers(6, "throw new Error();");
        seenAmongOthers(6, "Runnable r = () -> { };");
        seenAmongOthers(6, "Runnable r = this::one;");
        seenAmongOthers(6, "Object o = (Object) this;");
        seenAmongOthers(1, "class Inner { }");
        seenInBody(0, "return (int) (n * 3L) + (byte) n;");
        seenInBody(8, "while (n > 0) { n--; } return n;");
        seenInBody(8, "do { n--; } while (n > 0); return n;");
        seenInBody(8, "for (;;) { n--; }");
        seenInBody(8, "for (int i : row) { n += i; } return n;");
        seen(10, "private int one(int a, int b, int c, int d, int e, int f, int g, int h) { return a; }");
        seen(0, "private int one(int a, int b, int c, int d, int e, int f, int g) { return a; }");
        seenInBody(10, "n++; ".repeat(60) + "return n;");
    }

    private static void calls() throws IOException {
        seen(8, "private int one(int n) { return one(n); }");
        seen(8, "private int one(int n) { return two(n); } private int two(int n) { return one(n); }");
        seenInBody(10, "return two(other()); } private int two(int m) { return m;");
        seenInBody(10, "return two(1 + other()); } private int two(int m) { return m;");
        seenInBody(0, "return other() + other();");
        seen(0, chain(6));
        seen(10, chain(7));
    }

    private static String chain(int depth) {
        StringBuilder methods = new StringBuilder("private void m1() { } ");
        for (int i = 2; i <= depth; i++) {
            methods.append("private void m").append(i).append("() { m").append(i - 1).append("(); } ");
        }
        return methods.toString();
    }
}
