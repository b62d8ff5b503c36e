import java.nio.file.Files;
import java.nio.file.Path;
import java.util.List;

/** The program keeps to LANGUAGE.md; and Rules, by which that is told, tells a breach of each rule it looks at. */
public final class LanguageTest {
    private static final String HEAD = "import java.util.Arrays;\npublic final class AheadStore {\n"
        + "    public static final int NONE = -1;\n    private int size = 0;\n"
        + "    public int look(int what) { return what; }\n";

    public static void main(String[] args) throws Exception {
        List<String> broken = Rules.brokenIn(Files.readString(Path.of("src/main/java/AheadStore.java")));
        for (String one : broken) {
            System.out.println(one);
        }
        Due.is("breaches of LANGUAGE.md", broken.size(), 0);
        kept();
        faces();
        kinds();
        types();
        calls();
        statics();
        values();
        loops();
        sizes();
        Due.end("LanguageTest");
    }

    private static void tells(int rule, String inside) throws Exception {
        List<String> broken = Rules.brokenIn(HEAD + inside + "\n}\n");
        boolean told = broken.stream().anyMatch(one -> one.startsWith("rule " + rule + ":"));
        Due.yes("rule " + rule + " is told for " + inside + ", not " + broken, told);
    }

    private static void kept() throws Exception {
        List<String> broken = Rules.brokenIn(HEAD + "    private static final int[] ROW = {1, 2};\n"
            + "    private static final class Part { final int[] row = new int[3]; int used = 0; }\n"
            + "    private final Part part = new Part();\n"
            + "    public int at(int a, int b) {\n        int sum = 0;\n"
            + "        for (int i = 0; i < 2; i++) {\n            sum += ROW[i] / 3 + NONE;\n        }\n"
            + "        while (sum > 7 && a != b) {\n            sum = sum - 1;\n        }\n"
            + "        return part == null ? 0 : Math.max(sum, a % 16);\n    }\n}\n");
        Due.yes("nothing is told of what keeps to the rules, not " + broken, broken.isEmpty());
    }

    private static void faces() throws Exception {
        tells(1, "int seen = 0;");
        tells(1, "void seen() { }");
        tells(1, "public static final class Part { }");
        tells(1, "private void look() { }");
        tells(1, "private static final class Part { int look() { return 1; } }");
    }

    private static void kinds() throws Exception {
        tells(2, "private final class Part { }");
        tells(2, "private int make() { class Part { } return 1; }");
        tells(2, "private void make() { Runnable r = () -> { }; }");
        tells(2, "private void make() { Runnable r = this::make; }");
        tells(2, "private void make() { Object o = new Object() { }; }");
    }

    private static void types() throws Exception {
        tells(3, "private Object any = null;");
        tells(3, "private int[][][] deep = null;");
        tells(3, "private void make(Integer one) { }");
        tells(3, "private java.util.Map<Integer, Integer> all = null;");
    }

    private static void calls() throws Exception {
        tells(4, "private long now() { return System.nanoTime(); }");
        tells(4, "private int sum() { return Math.addExact(size, 1); }");
        tells(4, "private void sort(int[] row) { Arrays.sort(row); }");
        tells(4, "private void tell() { System.out.println(); }");
        tells(4, "private int dice() { return new java.util.Random().nextInt(); }");
        tells(8, "private int round(int n) { return n > 0 ? round(n - 1) : 0; }");
        tells(8, "private int one(int n) { return two(n); } private int two(int n) { return n > 0 ? one(n - 1) : 0; }");
    }

    private static void statics() throws Exception {
        tells(5, "private static int made = 0;");
        tells(5, "private static final int[] ROW = new int[4];");
        tells(5, "private static final boolean[] ROW = {true};");
        tells(5, "static { }");
        tells(5, "private static final int[] ROW = {1}; private void change() { ROW[0] = 2; }");
        tells(5, "private static final int[] ROW = {1}; private void change() { ROW[0]++; }");
    }

    private static void values() throws Exception {
        tells(6, "private void fail() { throw new IllegalArgumentException(); }");
        tells(6, "private void fail() { try { size = 1; } finally { size = 2; } }");
        tells(6, "private void fail() { assert size == 1; }");
        tells(6, "private void fail() { synchronized (this) { size = 1; } }");
        tells(6, "private boolean like(String a, String b) { return a == b; }");
        tells(6, "private int half(long all) { return (int) all; }");
        tells(7, "private int part(int n) { return 7 / n; }");
        tells(7, "private int part(int n) { return 7 % n; }");
        tells(7, "private void part(int n) { size /= n; }");
        tells(7, "private int part() { return 7 % size; }");
        tells(10, "private int join(String a) { String b = a + a; return b.length(); }");
    }

    private static void loops() throws Exception {
        tells(9, "private void wait1() { while (true) { size++; if (size > 4) { break; } } }");
        tells(9, "private void wait1() { for (;;) { size++; if (size > 4) { break; } } }");
        tells(9, "private void wait1(boolean on) { do { size++; } while (on); }");
        tells(9, "private void wait1(int n) { while (n < size) { size++; } }");
        tells(9, "private void wait1(int n) { while (n < 4 || size > 0) { n++; } }");
        tells(12, "private static final class Part { } private void make() { for (int i = 0; i < 3; i++) { Part p = new Part(); } }");
        tells(12, "private void make() { int[] row = new int[8]; }");
    }

    private static void sizes() throws Exception {
        tells(11, "private void many(int a, int b, int c, int d, int e, int f, int g, int h) { }");
        tells(11, "private void lengthy() {\n" + "size++;\n".repeat(60) + "}");
        StringBuilder chain = new StringBuilder("private int c9() { return 1; }\n");
        StringBuilder classes = new StringBuilder();
        StringBuilder fields = new StringBuilder();
        for (int i = 8; i >= 1; i--) {
            chain.append("private int c").append(i).append("() { return c").append(i + 1).append("(); }\n");
        }
        for (int i = 0; i < 12; i++) {
            classes.append("private static final class P").append(i).append(" { }\n");
        }
        for (int i = 0; i < 20; i++) {
            fields.append("private int f").append(i).append(" = 0;\n");
        }
        tells(11, chain.toString());
        tells(11, classes.toString());
        tells(11, fields.toString());
    }
}
