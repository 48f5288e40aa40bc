import java.nio.file.Files;
import java.nio.file.Path;
import java.util.List;

/** The form of the source: those rules of LANGUAGE.md that can be looked up in it. */
public final class RelationalPagesForm extends Checks {
    private static final Path SOURCE = Path.of("src/main/java/RelationalPages.java");

    public static void main(String[] args) throws Exception {
        runAll(RelationalPagesForm.class);
    }

    private static void theClass() throws Exception {
        about("LANGUAGE.md", "A landing outside them is sent back with the rule's number");
        due("faults of form", Form.faultsOf(Files.readString(SOURCE)), List.of());
    }

    private static void aGoodForm() throws Exception {
        about("LANGUAGE.md", "the part of it that these rules leave");
        due("faults of form", Form.faultsOf(sourceWith("")), List.of());
    }

    // The tests below try the looking up itself: what breaks a rule must be reported under its number.

    private static void rule1() throws Exception {
        dueFault(1, "private static final class Inner { }");
        dueFault(1, "private interface Inner { }");
        dueFault(1, "private enum Inner { A }");
        dueFault(1, "private record Inner(int a) { }");
        dueFault(1, "private int used(int a, int b) { return a; }");
        dueFault(1, "int seen = 0;");
        dueFault(1, "void seen() { }");
        dueFaultIn(1, "package pages;\n" + sourceWith(""));
        dueFaultIn(1, sourceWith("") + "\nclass Second { }");
    }

    private static void rule2() throws Exception {
        dueFault(2, "private float f = 0;");
        dueFault(2, "private void f() { double d = 0; }");
        dueFault(2, "private void f(double d) { }");
        dueFault(2, "private double f() { return 0; }");
        dueFault(2, "private String s;");
        dueFault(2, "private Object f() { return 1; }");
        dueFault(2, "private void f(Object o) { }");
        dueFault(2, "private void f() { used(\"1\"); }");
        dueFault(2, "private int f() { return 1.5 > 1 ? 1 : 2; }");
        dueFault(2, "private int[][] m;");
        dueFault(2, "private void f() { var v = 1; }");
    }

    private static void rule3() throws Exception {
        dueFault(3, "private int f() { return Math.abs(count); }");
        dueFault(3, "private int f() { return hashCode(); }");
        dueFault(3, "private int f() { return cells.length; }");
        dueFaultIn(3, "import java.util.Arrays;\n" + sourceWith(""));
    }

    private static void rule4() throws Exception {
        dueFault(4, "private void f() { used(new int[2]); }");
        dueFault(4, "private void f() { int[] made = new int[2]; }");
        dueFault(4, "private final int[] made = {1, 2};");
        dueFault(4, "private final int[] made = new int[] {1, 2};");
        dueFault(4, "private final int[] made = new int[count];");
        dueFault(4, "private int[] f() { return cells; }");
        dueFault(4, "private boolean f(int[] other) { return cells == other; }");
        dueFault(4, "private boolean f() { return cells != null; }");
        dueFault(4, "private void f(int[] other) { cells = other; }");
        dueFault(4, "private void f() { int[] alias = cells; }");
    }

    private static void rule5() throws Exception {
        dueFault(5, "private static int s = 0;");
        dueFault(5, "private static final boolean S = true;");
        dueFault(5, "private static final int S = used(1);");
        dueFault(5, "private static final int[] S = new int[SIZE];");
        dueFault(5, "static { }");
    }

    private static void rule6() throws Exception {
        dueFault(6, "private void f() { throw new RuntimeException(); }");
        dueFault(6, "private void f() throws Exception { }");
        dueFault(6, "private void f() { try { used(1); } finally { } }");
        dueFault(6, "private void f() { synchronized (cells) { } }");
        dueFault(6, "private synchronized void f() { }");
        dueFault(6, "private void f() { assert count > 0; }");
        dueFault(6, "private boolean f() { return this instanceof RelationalPages; }");
        dueFault(6, "private Runnable f = () -> { };");
        dueFault(6, "private Runnable f = this::used;");
    }

    private static void rule7() throws Exception {
        dueFault(7, "private int f() { return 1 / count; }");
        dueFault(7, "private int f(int by) { return 1 % by; }");
    }

    private static void rule8() throws Exception {
        dueFault(8, "private int f() { return f(); }");
        dueFault(8, "private int f() { return g(); } private int g() { return f(); }");
        dueFault(8, "private void f() { for (;;) { } }");
        dueFault(8, "private void f() { for (int i = 0; i < SIZE; i--) { } }");
        dueFault(8, "private void f() { for (int i = 0; i > SIZE; i++) { } }");
        dueFault(8, "private void f() { for (int i = 0; i != SIZE; i++) { } }");
        dueFault(8, "private void f() { for (int i = 0; i < SIZE; count++) { } }");
        dueFault(8, "private void f() { for (int i = 0; i < SIZE; i++) { i--; } }");
        dueFault(8, "private void f() { for (int i = 0; i < SIZE; i++) { if (count > 0) { i = 0; } } }");
        dueFault(8, "private void f() { for (int i = 0; i < count; i++) { count += 1; } }");
        dueFault(8, "private void f() { for (int i = 0; i < cells[0]; i++) { cells[0]++; } }");
        dueFault(8, "private void f() { while (true) { } }");
        dueFault(8, "private void f() { while (count > 0) { } }");
        dueFault(8, "private void f() { while (count > 0) { used(1); count++; } }");
        dueFault(8, "private void f() { while (count > 0) { if (cells[0] == 1) { continue; } count--; } }");
        dueFault(8, "private void f() { while (used(1) > 0 && count > 0) { count--; } }");
    }

    private static void rule10() throws Exception {
        dueFault(10, "private void f(int a, int b, int c, int d, int e, int g, int h, int i) { }");
        dueFault(10, "private int f() { return used(used(1)); }");
        dueFault(10, "private int f() { return used(1 + cells[used(1)]); }");
        dueFault(10, "private void f() {" + "\n".repeat(60) + "}");
        dueFault(10, "private int f() { return g(); } private int g() { return h(); }"
                + "private int h() { return i(); } private int i() { return j(); }"
                + "private int j() { return k(); } private int k() { return used(1); }");
        StringBuilder fields = new StringBuilder();
        for (int i = 0; i < 39; i++) {
            fields.append("private int field").append(i).append(" = 0;\n");
        }
        dueFault(10, fields.toString());
    }

    /** A class in the form that the rules ask for, with some members more. */
    private static String sourceWith(String members) {
        return "public final class RelationalPages {\n"
                + "private static final int SIZE = 2 * (3 + 1);\n"
                + "private final int[] cells = new int[SIZE];\n"
                + "private int count = 0;\n"
                + "private int used(int a) {\n"
                + "for (int i = 0; i < SIZE; i++) { cells[i] = a / SIZE; }\n"
                + "int place = a;\n"
                + "while (place > 0 && count < SIZE) { count++; place--; }\n"
                + "return cells[0];\n"
                + "}\n"
                + members + "\n}\n";
    }

    private static void dueFault(int rule, String members) throws Exception {
        dueFaultIn(rule, sourceWith(members));
    }

    private static void dueFaultIn(int rule, String source) throws Exception {
        about("LANGUAGE.md", "rule " + rule);
        boolean reported = false;
        for (String fault : Form.faultsOf(source)) {
            reported |= fault.startsWith("rule " + rule + ":");
        }
        due("reported: " + source, reported, true);
    }
}
