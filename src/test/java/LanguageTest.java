import java.io.IOException;
import java.nio.file.Files;
import java.nio.file.Path;
import java.util.List;

/** The class keeps to LANGUAGE.md as far as its source tells; and sources that don't are told from it. */
public final class LanguageTest {
    private LanguageTest() {
    }

    public static void main(String[] args) throws IOException {
        List<String> broken = Language.brokenIn("RiceHall", Files.readString(Path.of("src/main/java/RiceHall.java")));
        for (String rule : broken) {
            System.out.println(rule);
        }
        Due.is("rules broken by the class", broken.size(), 0);
        plain();
        shapes();
        library();
        depth();
        Due.end();
    }

    private static void holds(int rule, String members) throws IOException {
        List<String> broken = Language.brokenIn("A", "public final class A {" + members + "}");
        boolean told = false;
        for (String one : broken) {
            told |= one.startsWith("rule " + rule + ":");
        }
        Due.is("'" + members + "' breaks rule " + rule + " " + broken, told, rule > 0);
        Due.is("'" + members + "' breaks nothing " + broken, broken.isEmpty(), rule == 0);
    }

    private static void plain() throws IOException {
        holds(0, "int a(int b) { return b + 1; }");
        holds(0, "private static final int[] ROW = {1, 2}; int a() { return ROW.length + Math.max(1, 2); }");
        holds(0, "boolean a(String b) { return b == null || b.charAt(0) == 'x'; }");
        holds(0, "int[] a(int[] b) { return b.clone(); }");
        holds(0, "static final class B { int c; } B b = new B(); int a() { return b == null ? 0 : b.c; }");
    }

    private static void shapes() throws IOException {
        holds(2, "class B { }");
        holds(2, "void a() { class B { } }");
        holds(2, "interface B { int c(int d); } B b = x -> x;");
        holds(3, "Object a;");
        holds(3, "String[] a;");
        holds(3, "boolean[][] a;");
        holds(5, "static int a;");
        holds(5, "static final int[] A = new int[3];");
        holds(5, "static final int[] A = {1}; void b() { A[0] = 2; }");
        holds(5, "static { }");
        holds(6, "void a() { throw null; }");
        holds(6, "void a() { try { } finally { } }");
        holds(6, "void a() { assert true; }");
        holds(6, "void a() { synchronized (this) { } }");
        holds(6, "boolean a(String b, String c) { return b == c; }");
        holds(6, "boolean a(Integer b, Integer c) { return b != c; }");
        holds(9, "void a() { for (;;) { } }");
        holds(10, "String a(String b) { return b + 1; }");
        holds(10, "String a(String b) { b += 1; return b; }");
        holds(12, "A() { b(); } private void b() { }");
    }

    private static void library() throws IOException {
        holds(4, "int a(int b) { return Math.addExact(b, b); }");
        holds(4, "double a(double b) { return Math.sqrt(b); }");
        holds(4, "int a() { return Integer.MAX_VALUE; }");
        holds(4, "long a() { return System.nanoTime(); }");
        holds(4, "boolean a(String b) { return b.contains(b); }");
        holds(4, "int a(A b) { return b == null ? 0 : b.hashCode(); }");
        holds(4, "void a() { new Thread(); }");
        holds(4, "double a() { return java.util.concurrent.ThreadLocalRandom.current().nextDouble(); }");
    }

    private static void depth() throws IOException {
        holds(0, chain(8));
        holds(11, chain(9));
        holds(0, "private static int b(int c) { return c > 0 ? b(c - 1) : 0; }");
        holds(11, "void a(int a, int b, int c, int d, int e, int f, int g, int h) { }");
        holds(0, "void a() {" + "\n".repeat(59) + "}");
        holds(11, "void a() {" + "\n".repeat(60) + "}");
        holds(0, "static final class B { }".replace("B", "B0") + classes(10));
        holds(11, "static final class B { }".replace("B", "B0") + classes(11));
        holds(0, fields(20));
        holds(11, fields(21));
    }

    private static String chain(int methods) {
        StringBuilder text = new StringBuilder();
        for (int i = 1; i < methods; i++) {
            text.append("private void a").append(i).append("() { a").append(i + 1).append("(); }");
        }
        return text.append("private void a").append(methods).append("() { }").toString();
    }

    private static String classes(int many) {
        StringBuilder text = new StringBuilder();
        for (int i = 1; i <= many; i++) {
            text.append("static final class B").append(i).append(" { }");
        }
        return text.toString();
    }

    private static String fields(int many) {
        StringBuilder text = new StringBuilder();
        for (int i = 1; i <= many; i++) {
            text.append("private int a").append(i).append(";");
        }
        return text.toString();
    }
}
