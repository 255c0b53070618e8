import java.io.IOException;
import java.lang.reflect.InvocationTargetException;
import java.lang.reflect.Method;
import java.lang.reflect.Modifier;
import java.nio.file.Files;
import java.nio.file.Path;
import java.util.Arrays;
import java.util.List;

/**
 * ../shared/LANGUAGE.md, rule by rule: the class's text keeps to it, and no call throws. That
 * Language would tell a fault is tested too, on a small class with one fault put in at a time.
 */
public final class LanguageTest {
    private static final Path CLASS = Path.of("src/main/java/IfConverter.java");
    private static final String SMALL = "public final class IfConverter {\n"
            + "    public static final int MOST = 4;\n"
            + "    private static final int LEAST = -1;\n"
            + "    private int n = 0;\n"
            + "    private final int[] row = new int[MOST];\n"
            + "    private final long[] other = new long[2];\n"
            + "    public IfConverter(int a) { n = a; }\n"
            + "    public int guards() { return n; }\n"
            + "    private int help(int a) { return a + 1; }\n"
            + "    private int sum(int[] a) { return a[0]; }\n"
            + "    private static int twice(int a) { return 2 * a; }\n"
            + "    //HERE\n"
            + "}\n";
    private static final int[] ARGUMENTS = {Integer.MIN_VALUE, -1, 0, 3, 4, 7, 8, 12, 32,
        Integer.MAX_VALUE};

    private static int wrong = 0;
    private static int looks = 0;

    public static void main(String[] args) throws Exception {
        theClass();
        allowed();
        rules1To3();
        rule4();
        rules5To6();
        rules7To8();
        rule10();
        noCallThrows();
        System.out.println(wrong == 0 ? "the class keeps to the rules (" + looks + " looks)"
                : wrong + " looks are not as due");
        if (wrong != 0) {
            System.exit(1);
        }
    }

    private static void due(boolean right, String fault) {
        looks++;
        if (!right) {
            wrong++;
            System.out.println(fault);
        }
    }

    private static void theClass() throws IOException {
        List<String> faults = Language.faults(Files.readString(CLASS));
        due(faults.isEmpty(), CLASS + ": " + faults);
    }

    private static void allows(String member) throws IOException {
        List<String> faults = Language.faults(SMALL.replace("//HERE", member));
        due(faults.isEmpty(), "allowed is " + member + ", told was " + faults);
    }

    private static void forbids(int rule, String member) throws IOException {
        forbidsText(rule, SMALL.replace("//HERE", member));
    }

    private static void forbidsText(int rule, String text) throws IOException {
        List<String> faults = Language.faults(text);
        boolean told = faults.stream().anyMatch(fault -> fault.matches("(?s)rule " + rule + "\\b.*"));
        due(told, "rule " + rule + " forbids " + text + ", told was " + faults);
        due(faults.stream().noneMatch(fault -> fault.startsWith("it doesn't compile")), "" + faults);
    }

    private static void allowed() throws IOException {
        allows("");
        allows("private boolean f(byte a, short b, char c) { return (byte) a < b && 'x' == c; }");
        allows("private int f() { for (int i = 0; i < row.length; i++) { n += row[i]; } return n; }");
        allows("private int f() { for (int a : row) { n += a; } return n; }");
        allows("private void f() { for (int i = MOST - 1; i >= 0; i--) { row[i] = i; } }");
        allows("private int f() { int[] a = row; int s = sum(a); return this.n / 2 + s % MOST; }");
        allows("private int f(int a) { switch (a) { case 1: return 5; default: break; } return help(a) + twice(a); }");
        allows("private long f(long a) { return a >>> 3 ^ IfConverter.LEAST; }");
        allows("private static final long FAR = 1L << 40; private final int[] far = new int[MOST];");
    }

    private static void rules1To3() throws IOException {
        forbidsText(1, "package p; " + SMALL);
        forbidsText(1, SMALL + " class Second { }");
        forbidsText(1, SMALL.replace("final class", "class"));
        forbids(1, "private static final class Inner { }");
        forbids(1, "private enum Inner { A }");
        forbids(1, "private record Inner(int a) { }");
        forbids(1, "private interface Inner { }");
        forbids(1, "int f() { return 1; }");
        forbids(1, "protected int f() { return 1; }");
        forbids(1, "int f = 1;");
        forbids(1, "public int f = 1;");
        forbids(1, "static final int F = 1;");
        forbids(1, "private int guards(int a) { return a; }");
        forbids(2, "private double f = 1;");
        forbids(2, "private float f(float a) { return a; }");
        forbids(2, "private int f() { return (int) 1.5; }");
        forbids(2, "private int f() { var a = \"b\"; return 1; }");
        forbids(2, "private final int[][] f = new int[2][];");
        forbids(2, "private Object f = this;");
        forbids(2, "private IfConverter f = this;");
        forbids(2, "private Integer f = 1;");
        forbidsText(3, "import java.util.List; " + SMALL);
        forbids(3, "private int f() { return Math.max(n, 1); }");
        forbids(3, "private int f() { return Integer.MAX_VALUE; }");
        forbids(3, "private int f() { return hashCode(); }");
        forbids(3, "private long f() { return System.nanoTime(); }");
        forbids(3, "private int f() { return row.clone()[0]; }");
        forbids(3, "@Deprecated private int f() { return 1; }");
    }

    private static void rule4() throws IOException {
        forbids(4, "private int f() { int[] a = new int[2]; return a[0]; }");
        forbids(4, "private int f() { int[] a = {1, 2}; return a[0]; }");
        forbids(4, "private final int[] f = {1, 2};");
        forbids(4, "private final int[] f = new int[0];");
        forbids(4, "private final int[] f = new int[n];");
        forbids(4, "private final int[] f = MOST > 3 ? new int[2] : new int[3];");
        forbids(4, "private int[] f() { return row; }");
        forbids(4, "private int f() { return row == row ? 1 : 0; }");
        forbids(4, "private int f(int[] a) { return a != null ? 1 : 0; }");
        forbids(4, "private int[] f = row; private void g() { f = row; }");
        forbids(4, "private int f(int[] a, int[] b) { a = b; return a[0]; }");
        forbids(4, "private int f() { return new IfConverter(1).n; }");
        forbidsText(4, SMALL.replace("{ n = a; }", "{ n = sum(row); }"));
    }

    private static void rules5To6() throws IOException {
        forbids(5, "private static int f = 1;");
        forbids(5, "private static final boolean F = true;");
        forbids(5, "private static final int F = twice(2);");
        forbids(5, "private static final int[] F = new int[2];");
        forbids(5, "static { twice(1); }");
        forbids(6, "private int f() { throw new RuntimeException(); }");
        forbids(6, "private int f() { try { return 1; } finally { n = 2; } }");
        forbids(6, "private int f() { synchronized (this) { return 1; } }");
        forbids(6, "private synchronized int f() { return 1; }");
        forbids(6, "private int f() throws RuntimeException { return 1; }");
        forbids(6, "private int f() { assert n > 0; return 1; }");
        forbids(6, "private boolean f(Object a) { return a instanceof IfConverter; }");
        forbids(6, "private Runnable f() { return () -> { }; }");
        forbids(6, "private Runnable f() { return this::guards; }");
        forbids(6, "private int f(Object a) { return ((IfConverter) a).n; }");
    }

    private static void rules7To8() throws IOException {
        forbids(7, "private int f(int a) { return n / a; }");
        forbids(7, "private int f(int a) { return n % a; }");
        forbids(7, "private int f(int a) { n /= a; return n; }");
        forbids(7, "private int f(int a) { n %= a; return n; }");
        forbids(8, "private int f(int a) { return a == 0 ? 0 : f(a - 1); }");
        forbids(8, "private int f(int a) { return g(a); } private int g(int a) { return a == 0 ? 0 : f(a); }");
        forbids(8, "private void f() { while (n > 0) { n--; } }");
        forbids(8, "private void f() { do { n--; } while (n > 0); }");
        forbids(8, "private void f() { for (;;) { n++; } }");
        forbids(8, "private void f() { for (int i = 0; i < n; n++) { row[0]++; } }");
        forbids(8, "private void f() { for (int i = 0; i >= 0; i++) { row[0]++; } }");
        forbids(8, "private void f() { for (int i = 0; i < MOST; i--) { row[0]++; } }");
        forbids(8, "private void f() { for (int i = 0; i < MOST; i++) { i = 0; } }");
        forbids(8, "private void f() { for (int i = 0; i < MOST; i++) { i -= 1; } }");
        forbids(8, "private void f() { for (int i = 0; i < n; i++) { n++; } }");
        forbids(8, "private void f() { for (int i = 0; i < n; i++) { this.n = i + 2; } }");
        forbids(8, "private void f() { for (int i = 0; i < row[0]; i++) { row[0]++; } }");
    }

    private static void rule10() throws IOException {
        forbids(10, "private int f(int a, int b, int c, int d, int e, int g, int h, int i) { return a; }");
        forbids(10, "private int f() { return help(help(1)); }");
        forbids(10, "private int f() { return help(1 + twice(2)); }");
        forbids(10, "private int f() {" + "\n n++;".repeat(60) + "\n return n; }");
        StringBuilder deep = new StringBuilder("private int f0() { return 0; }");
        for (int i = 1; i <= 6; i++) {
            deep.append(" private int f").append(i).append("() { return f").append(i - 1).append("(); }");
        }
        forbids(10, deep.toString());
        StringBuilder fields = new StringBuilder();
        for (int i = 0; i < 40; i++) {
            fields.append(" private int f").append(i).append(" = 0;");
        }
        forbids(10, fields.toString());
    }

    // Rules 7 and 11, as far as calls show them.

    private static void noCallThrows() throws IllegalAccessException {
        for (Method method : IfConverter.class.getDeclaredMethods()) {
            if (Modifier.isPublic(method.getModifiers())) {
                Object[] arguments = new Object[method.getParameterCount()];
                allArguments(method, arguments, 0);
            }
        }
    }

    private static void allArguments(Method method, Object[] arguments, int from)
            throws IllegalAccessException {
        if (from == arguments.length) {
            for (State state : State.ALL) {
                answersTheSameTwice(state, method, arguments);
            }
            return;
        }
        for (int n : ARGUMENTS) {
            arguments[from] = n;
            allArguments(method, arguments, from + 1);
        }
    }

    private static void answersTheSameTwice(State state, Method method, Object[] arguments)
            throws IllegalAccessException {
        String call = method.getName() + Arrays.toString(arguments) + ", " + state;
        try {
            Object first = method.invoke(state.make(), arguments);
            due(first.equals(method.invoke(state.make(), arguments)), call + " answered two things");
        } catch (InvocationTargetException thrown) {
            due(false, call + " threw " + thrown.getCause());
        }
    }
}
