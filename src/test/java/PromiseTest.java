import java.util.Arrays;

/** The promises of the document one by one: ordinary inputs, the edges it names, wrong inputs. */
public final class PromiseTest {
    private static final int LEAST = Integer.MIN_VALUE;
    private static final int GREATEST = Integer.MAX_VALUE;

    private static final int OK = IfConverter.OK;
    private static final int NONE = IfConverter.NONE;
    private static final int BAD = IfConverter.BAD;
    private static final int FULL = IfConverter.FULL;
    private static final int UNCONVERTED = IfConverter.UNCONVERTED;
    private static final int SET = IfConverter.SET;
    private static final int COPY = IfConverter.COPY;
    private static final int ADD = IfConverter.ADD;
    private static final int SUB = IfConverter.SUB;
    private static final int MUL = IfConverter.MUL;
    private static final int XOR = IfConverter.XOR;
    private static final int LESS = IfConverter.LESS;
    private static final int EQUAL = IfConverter.EQUAL;
    private static final int SOURCE = IfConverter.SOURCE;
    private static final int GUARDED = IfConverter.GUARDED;
    private static final int RESTORED = IfConverter.RESTORED;
    private static final int TEST = IfConverter.TEST;
    private static final int ON_TRUE = IfConverter.ON_TRUE;
    private static final int ON_FALSE = IfConverter.ON_FALSE;
    private static final int SIZE = IfConverter.SIZE;
    private static final int OP = IfConverter.OP;
    private static final int DEST = IfConverter.DEST;
    private static final int ARG = IfConverter.ARG;
    private static final int BEFORE = IfConverter.BEFORE;
    private static final int AFTER = IfConverter.AFTER;

    private static int wrong = 0;
    private static int promise = 0;

    public static void main(String[] args) {
        start();
        emit();
        jump();
        branch();
        clear();
        input();
        convert();
        run();
        runInstructions();
        value();
        ran();
        holds();
        guards();
        guardOf();
        depends();
        restored();
        source();
        cell();
        System.out.println(wrong == 0 ? "all answers are as due" : wrong + " answers are not as due");
        if (wrong != 0) {
            System.exit(1);
        }
    }

    private static void due(String call, long got, long want) {
        if (got != want) {
            wrong++;
            System.out.println(
                    "promise " + promise + ": " + call + " answered " + got + ", due is " + want);
        }
    }

    // Whole objects.

    private static final int[] NUMBERS = {LEAST, -1, 0, 1, 2, 3, 4, 5, 6, 7, 8, 9, 10, 11, 12, 13,
        31, 32, 33, GREATEST};

    /** Every answer that can be had without changing anything. */
    private static int[] look(IfConverter x) {
        int[] seen = new int[30000];
        int n = 0;
        seen[n++] = x.guards();
        for (int a : NUMBERS) {
            seen[n++] = x.ran(a);
            seen[n++] = x.holds(a);
            seen[n++] = x.guardOf(a);
            for (int b : NUMBERS) {
                seen[n++] = x.value(a, b);
                seen[n++] = x.restored(a, b);
                seen[n++] = x.source(a, b);
                for (int c : NUMBERS) {
                    seen[n++] = x.cell(a, b, c);
                    seen[n++] = x.depends(a, b, c);
                }
            }
        }
        return Arrays.copyOf(seen, n);
    }

    private static void same(String what, int[] got, int[] want) {
        due(what + ": number of changed answers", changes(got, want), 0);
    }

    private static int changes(int[] got, int[] want) {
        int n = 0;
        for (int i = 0; i < got.length; i++) {
            n += got[i] == want[i] ? 0 : 1;
        }
        return n;
    }

    /** The source and the inputs alone. */
    private static int[] lookAtText(IfConverter x, int exceptBlock) {
        int[] seen = new int[1000];
        int n = 0;
        for (int b = 0; b < 12; b++) {
            for (int part = 0; part < 4; part++) {
                seen[n++] = b == exceptBlock ? 0 : x.source(b, part);
            }
            for (int i = 0; i < 4; i++) {
                for (int part = 0; part < 3; part++) {
                    seen[n++] = b == exceptBlock ? 0 : x.cell(b, i, part);
                }
            }
        }
        for (int r = 0; r < 8; r++) {
            seen[n++] = x.value(r, BEFORE);
        }
        return Arrays.copyOf(seen, n);
    }

    /** Block 0 branches to 1 and 2, 2 to 3 and 4; 1, 3 and 4 meet in 5. Blocks 6 and 7 are not
     *  reached: 5 leaves the region. */
    private static IfConverter region() {
        IfConverter x = new IfConverter(8, 3, 4);
        x.branch(0, 0, 1, 2);
        x.emit(1, SET, 2, 10);
        x.jump(1, 5);
        x.emit(2, COPY, 3, 1);
        x.branch(2, 1, 3, 4);
        x.emit(3, SET, 2, 30);
        x.jump(3, 5);
        x.emit(4, SET, 2, 40);
        x.emit(5, ADD, 2, 1);
        x.jump(5, 8);
        x.emit(6, SET, 2, 60);
        x.branch(6, 3, 7, 8);
        x.input(0, 0);
        x.input(1, 5);
        x.input(2, -2);
        x.input(3, 77);
        return x;
    }

    private static IfConverter converted() {
        IfConverter x = region();
        x.convert();
        return x;
    }

    private static IfConverter recorded(int form, int stop) {
        IfConverter x = converted();
        x.run(form, stop);
        return x;
    }

    /** What an accepted edit does beside its own change, to an object with a record. */
    private static void edited(String call, IfConverter x) {
        due(call + " then guards()", x.guards(), NONE);
        due(call + " then guardOf(0)", x.guardOf(0), NONE);
        due(call + " then ran(0)", x.ran(0), NONE);
        due(call + " then holds(0)", x.holds(0), NONE);
        due(call + " then depends(1, 0, 1)", x.depends(1, 0, 1), NONE);
        due(call + " then restored(0, SIZE)", x.restored(0, SIZE), NONE);
        due(call + " then run(GUARDED, 0)", x.run(GUARDED, 0), UNCONVERTED);
        due(call + " then run(RESTORED, 8)", x.run(RESTORED, 8), UNCONVERTED);
        due(call + " then value(2, AFTER)", x.value(2, AFTER), 0);
        due(call + " then value(2, BEFORE)", x.value(2, BEFORE), -2);
    }

    // Promise 1.

    private static void start() {
        promise = 1;
        size(2, 1, 2, 2, 1, 2);
        size(12, 4, 8, 12, 4, 8);
        size(7, 3, 5, 7, 3, 5);
        size(1, 0, 1, 2, 1, 2);
        size(13, 5, 9, 12, 4, 8);
        size(0, -1, 0, 2, 1, 2);
        size(LEAST, LEAST, LEAST, 2, 1, 2);
        size(GREATEST, GREATEST, GREATEST, 12, 4, 8);
        size(3, GREATEST, LEAST, 3, 4, 2);
        size(LEAST, 2, GREATEST, 2, 2, 8);
    }

    private static void size(int blocks, int cells, int regs, int b, int c, int r) {
        IfConverter x = new IfConverter(blocks, cells, regs);
        String name = "(" + blocks + ", " + cells + ", " + regs + ") ";
        for (int i = 0; i < b; i++) {
            due(name + "source(" + i + ", TEST)", x.source(i, TEST), NONE);
            due(name + "source(" + i + ", ON_TRUE)", x.source(i, ON_TRUE), i + 1);
            due(name + "source(" + i + ", ON_FALSE)", x.source(i, ON_FALSE), i + 1);
            due(name + "source(" + i + ", SIZE)", x.source(i, SIZE), 0);
        }
        due(name + "source(B, SIZE)", x.source(b, SIZE), NONE);
        for (int i = 0; i < r; i++) {
            due(name + "value(" + i + ", BEFORE)", x.value(i, BEFORE), 0);
            due(name + "value(" + i + ", AFTER)", x.value(i, AFTER), 0);
        }
        due(name + "guards()", x.guards(), NONE);
        due(name + "ran(0)", x.ran(0), NONE);
        due(name + "run(GUARDED, 0)", x.run(GUARDED, 0), UNCONVERTED);
        due(name + "run(SOURCE, B + 1)", x.run(SOURCE, b + 1), BAD);
        due(name + "run(SOURCE, B)", x.run(SOURCE, b), b);
        due(name + "input(R - 1, 9)", x.input(r - 1, 9), OK);
        due(name + "input(R, 9)", x.input(r, 9), BAD);
        for (int i = 0; i < c; i++) {
            due(name + "emit " + i, x.emit(b - 1, SET, 0, i), OK);
        }
        due(name + "emit C", x.emit(b - 1, SET, 0, 0), FULL);
        due(name + "convert()", x.convert(), 1);
    }

    // Promise 2.

    private static void emit() {
        promise = 2;
        IfConverter x = recorded(GUARDED, 8);
        int[] others = lookAtText(x, 2);
        due("emit", x.emit(2, XOR, 3, 0), OK);
        edited("emit", x);
        same("other blocks", lookAtText(x, 2), others);
        due("size", x.source(2, SIZE), 2);
        due("earlier op", x.cell(2, 0, OP), COPY);
        due("earlier arg", x.cell(2, 0, ARG), 1);
        due("op", x.cell(2, 1, OP), XOR);
        due("dest", x.cell(2, 1, DEST), 3);
        due("arg", x.cell(2, 1, ARG), 0);
        due("test", x.source(2, TEST), 1);
        due("on true", x.source(2, ON_TRUE), 3);
        due("on false", x.source(2, ON_FALSE), 4);
        due("SET with the least", x.emit(2, SET, 0, LEAST), OK);
        due("FULL", x.emit(2, SET, 0, 0), FULL);
        due("emit in the last block", x.emit(7, SET, 0, GREATEST), OK);
        due("emit of the last kind", x.emit(7, EQUAL, 3, 3), OK);
        emitRefusals();
    }

    private static void emitRefusals() {
        IfConverter x = converted();
        x.emit(3, SET, 0, -1);
        x.emit(3, SET, 0, 8);
        x.convert();
        x.run(GUARDED, 8);
        int[] before = look(x);
        for (int n : new int[] {LEAST, -1, 8, GREATEST}) {
            due("emit(" + n + ", SET, 0, 0)", x.emit(n, SET, 0, 0), BAD);
            due("emit(0, " + n + ", 0, 0)", x.emit(0, n, 0, 0), BAD);
        }
        for (int n : new int[] {LEAST, -1, 4, GREATEST}) {
            due("emit(0, SET, " + n + ", 0)", x.emit(0, SET, n, 0), BAD);
            for (int op = COPY; op <= EQUAL; op++) {
                due("emit(0, " + op + ", 0, " + n + ")", x.emit(0, op, 0, n), BAD);
            }
            due("BAD before FULL, d", x.emit(3, SET, n, 0), BAD);
            due("BAD before FULL, x", x.emit(3, ADD, 0, n), BAD);
        }
        due("BAD before FULL, op", x.emit(3, 8, 0, 0), BAD);
        due("FULL", x.emit(3, ADD, 3, 3), FULL);
        due("FULL with SET", x.emit(3, SET, 3, GREATEST), FULL);
        same("refused emits", look(x), before);
    }

    // Promise 3.

    private static void jump() {
        promise = 3;
        IfConverter x = recorded(GUARDED, 8);
        int[] others = lookAtText(x, 2);
        due("jump", x.jump(2, 7), OK);
        edited("jump", x);
        same("other blocks", lookAtText(x, 2), others);
        due("test", x.source(2, TEST), NONE);
        due("on true", x.source(2, ON_TRUE), 7);
        due("on false", x.source(2, ON_FALSE), 7);
        due("size", x.source(2, SIZE), 1);
        due("dest", x.cell(2, 0, DEST), 3);
        due("jump to B", x.jump(0, 8), OK);
        due("jump to B from B - 1", x.jump(7, 8), OK);

        IfConverter y = recorded(GUARDED, 8);
        int[] text = lookAtText(y, NONE);
        due("the same jump", y.jump(1, 5), OK);
        edited("the same jump", y);
        same("text after the same jump", lookAtText(y, NONE), text);

        IfConverter z = recorded(GUARDED, 8);
        int[] before = look(z);
        int[][] bad = {{-1, 1}, {8, 9}, {LEAST, 1}, {GREATEST, LEAST}, {8, 8}, {0, 0}, {3, 3}, {3, 2},
            {0, 9}, {7, 7}, {7, 9}, {0, -1}, {0, LEAST}, {0, GREATEST}, {-1, 0}};
        for (int[] a : bad) {
            due("jump" + Arrays.toString(a), z.jump(a[0], a[1]), BAD);
        }
        same("refused jumps", look(z), before);
    }

    // Promise 4.

    private static void branch() {
        promise = 4;
        IfConverter x = recorded(GUARDED, 8);
        int[] others = lookAtText(x, 4);
        due("branch", x.branch(4, 3, 8, 5), OK);
        edited("branch", x);
        same("other blocks", lookAtText(x, 4), others);
        due("test", x.source(4, TEST), 3);
        due("on true", x.source(4, ON_TRUE), 8);
        due("on false", x.source(4, ON_FALSE), 5);
        due("size", x.source(4, SIZE), 1);
        due("arg", x.cell(4, 0, ARG), 40);
        due("same targets", x.branch(4, 0, 6, 6), OK);
        due("test of same targets", x.source(4, TEST), 0);
        due("branch from B - 1", x.branch(7, 2, 8, 8), OK);
        due("test in B - 1", x.source(7, TEST), 2);

        IfConverter y = recorded(GUARDED, 8);
        int[] text = lookAtText(y, NONE);
        due("the same branch", y.branch(2, 1, 3, 4), OK);
        edited("the same branch", y);
        same("text after the same branch", lookAtText(y, NONE), text);

        IfConverter z = recorded(GUARDED, 8);
        int[] before = look(z);
        int[][] bad = {{-1, 0, 1, 1}, {8, 0, 9, 9}, {LEAST, 0, 1, 1}, {GREATEST, 0, 1, 1},
            {0, -1, 1, 2}, {0, 4, 1, 2}, {0, LEAST, 1, 2}, {0, GREATEST, 1, 2},
            {3, 0, 3, 4}, {3, 0, 4, 3}, {3, 0, 0, 4}, {3, 0, 4, -1}, {3, 0, 9, 4}, {3, 0, 4, 9},
            {3, 0, LEAST, 4}, {3, 0, 4, GREATEST}, {7, 0, 8, 7}, {7, 0, 7, 8}};
        for (int[] a : bad) {
            due("branch" + Arrays.toString(a), z.branch(a[0], a[1], a[2], a[3]), BAD);
        }
        same("refused branches", look(z), before);
    }

    // Promise 5.

    private static void clear() {
        promise = 5;
        IfConverter x = recorded(GUARDED, 8);
        int[] others = lookAtText(x, 2);
        due("clear", x.clear(2), OK);
        edited("clear", x);
        same("other blocks", lookAtText(x, 2), others);
        due("size", x.source(2, SIZE), 0);
        due("cell", x.cell(2, 0, OP), NONE);
        due("test", x.source(2, TEST), NONE);
        due("on true", x.source(2, ON_TRUE), 3);
        due("on false", x.source(2, ON_FALSE), 3);
        due("room again 1", x.emit(2, SET, 0, 1), OK);
        due("room again 2", x.emit(2, SET, 0, 2), OK);
        due("room again 3", x.emit(2, SET, 0, 3), OK);
        due("room no more", x.emit(2, SET, 0, 4), FULL);
        x.branch(7, 0, 8, 8);
        due("clear B - 1", x.clear(7), OK);
        due("B - 1 leaves", x.source(7, ON_TRUE), 8);
        due("B - 1 has no test", x.source(7, TEST), NONE);

        IfConverter y = recorded(GUARDED, 8);
        int[] text = lookAtText(y, NONE);
        due("clear an empty block", y.clear(7), OK);
        edited("clear an empty block", y);
        same("text after it", lookAtText(y, NONE), text);

        IfConverter z = recorded(GUARDED, 8);
        int[] before = look(z);
        for (int b : new int[] {LEAST, -1, 8, 12, GREATEST}) {
            due("clear(" + b + ")", z.clear(b), BAD);
        }
        same("refused clears", look(z), before);
    }

    // Promise 6.

    private static void input() {
        promise = 6;
        IfConverter x = recorded(GUARDED, 8);
        int[] before = look(x);
        for (int r : new int[] {LEAST, -1, 4, 8, GREATEST}) {
            due("input(" + r + ", 1)", x.input(r, 1), BAD);
        }
        same("refused inputs", look(x), before);
        due("input", x.input(3, LEAST), OK);
        due("its value", x.value(3, BEFORE), LEAST);
        due("changed answers", changes(look(x), before), 1);
        due("input back", x.input(3, 77), OK);
        same("input back", look(x), before);
        due("input", x.input(0, GREATEST), OK);
        due("its value", x.value(0, BEFORE), GREATEST);
        due("it is no edit", x.run(RESTORED, 8), 8);
        due("the run starts from it", x.value(0, AFTER), GREATEST);
    }

    // Promise 7.

    private static void convert() {
        promise = 7;
        IfConverter x = region();
        int[] text = lookAtText(x, NONE);
        x.run(SOURCE, 3);
        due("convert()", x.convert(), 5);
        same("text and inputs", lookAtText(x, NONE), text);
        due("record kept, ran(2)", x.ran(2), 1);
        due("record kept, ran(1)", x.ran(1), 0);
        due("record kept, value", x.value(3, AFTER), 5);
        due("record kept as SOURCE", x.holds(0), NONE);
        x.run(GUARDED, 3);
        int[] before = look(x);
        due("convert() again", x.convert(), 5);
        same("convert() again", look(x), before);
        x.jump(0, 8);
        due("after an edit", x.convert(), 1);
        due("guards() after an edit", x.guards(), 1);
        due("guardOf(1) after an edit", x.guardOf(1), NONE);
        due("the least region", new IfConverter(2, 1, 2).convert(), 1);
        due("all blocks differ", ladder().convert(), 12);
    }

    /** From each block to the next one or out. */
    private static IfConverter ladder() {
        IfConverter x = new IfConverter(12, 1, 2);
        for (int b = 0; b < 12; b++) {
            x.branch(b, 0, b + 1, 12);
        }
        return x;
    }

    // Promise 8.

    private static void run() {
        promise = 8;
        int[][] paths = {{0, 1, 5}, {0, 2, 3, 5}, {0, 2, 4, 5}};
        int[][] inputs = {{9, 0}, {0, 9}, {0, 0}};
        int[] results = {10, 39, 40};
        for (int form = SOURCE; form <= RESTORED; form++) {
            for (int k = 0; k < 3; k++) {
                IfConverter x = converted();
                x.input(0, inputs[k][0]);
                x.input(1, inputs[k][1]);
                for (int stop = 0; stop <= 8; stop++) {
                    runOnePath(x, form, stop, paths[k]);
                }
                due("result of path " + k, x.value(2, AFTER), results[k]);
            }
        }
        runRefusals();
        runKeeps();
        runUnreached();
    }

    private static void runOnePath(IfConverter x, int form, int stop, int[] path) {
        int c = 8;
        int ran = 0;
        for (int b : path) {
            if (b < stop) {
                ran |= 1 << b;
            } else if (c == 8) {
                c = b;
            }
        }
        String call = "run(" + form + ", " + stop + ")";
        due(call, x.run(form, stop), c);
        for (int b = 0; b < 8; b++) {
            due(call + " then ran(" + b + ")", x.ran(b), ran >> b & 1);
        }
    }

    private static void runRefusals() {
        IfConverter x = recorded(GUARDED, 3);
        int[] before = look(x);
        for (int n : new int[] {LEAST, -1, 3, GREATEST}) {
            due("run(" + n + ", 0)", x.run(n, 0), BAD);
        }
        for (int form = SOURCE; form <= RESTORED; form++) {
            for (int n : new int[] {LEAST, -1, 9, GREATEST}) {
                due("run(" + form + ", " + n + ")", x.run(form, n), BAD);
            }
        }
        same("refused runs", look(x), before);

        IfConverter y = region();
        y.run(SOURCE, 3);
        int[] unconverted = look(y);
        due("UNCONVERTED", y.run(GUARDED, 8), UNCONVERTED);
        due("UNCONVERTED", y.run(RESTORED, 0), UNCONVERTED);
        due("BAD before UNCONVERTED", y.run(GUARDED, 9), BAD);
        due("BAD before UNCONVERTED", y.run(RESTORED, -1), BAD);
        due("BAD before UNCONVERTED", y.run(3, 0), BAD);
        same("refused runs", look(y), unconverted);
        due("SOURCE needs no conversion", y.run(SOURCE, 8), 8);
        due("run doesn't convert", y.guards(), NONE);
    }

    private static void runKeeps() {
        for (int form = SOURCE; form <= RESTORED; form++) {
            IfConverter x = converted();
            int[] text = lookAtText(x, NONE);
            x.run(form, 8);
            same("text and inputs", lookAtText(x, NONE), text);
            due("still converted", x.guards(), 5);
            due("run again", x.run(form, 0), 0);
            due("nothing has run", x.ran(0), 0);
            for (int r = 0; r < 4; r++) {
                due("final register " + r, x.value(r, AFTER), x.value(r, BEFORE));
            }
        }
    }

    /** Block 0 goes straight to 5: no guard is made true on the way, and 1 to 4 are not reached. */
    private static void runUnreached() {
        for (int form = SOURCE; form <= RESTORED; form++) {
            IfConverter x = region();
            x.jump(0, 5);
            x.convert();
            due("over unreached blocks", x.run(form, 2), 5);
            due("ran(1)", x.ran(1), 0);
            due("to the end", x.run(form, 8), 8);
            due("value", x.value(2, AFTER), 3);
            IfConverter y = new IfConverter(3, 1, 2);
            y.branch(0, 1, 2, 2);
            y.convert();
            due("branch with same targets", y.run(form, 1), 2);
            y.emit(0, SET, 1, LEAST);
            y.branch(0, 1, 3, 1);
            y.convert();
            due("the test comes after the instructions", y.run(form, 1), 3);
        }
    }

    private static void runInstructions() {
        int[] numbers = {LEAST, LEAST + 1, -65536, -3, -1, 0, 1, 2, 46341, 65537, GREATEST - 1, GREATEST};
        for (int form = SOURCE; form <= RESTORED; form++) {
            for (int op = SET; op <= EQUAL; op++) {
                for (int a : numbers) {
                    for (int b : numbers) {
                        runInstruction(form, op, a, b);
                    }
                    runOnSameRegister(form, op, a);
                }
            }
        }
        IfConverter x = new IfConverter(2, 4, 2);
        x.emit(0, SET, 0, 3);
        x.emit(0, COPY, 1, 0);
        x.emit(0, MUL, 0, 1);
        x.emit(0, SUB, 1, 0);
        x.run(SOURCE, 1);
        due("in order, register 0", x.value(0, AFTER), 9);
        due("in order, register 1", x.value(1, AFTER), -6);
    }

    private static int result(int op, int d, int x) {
        long a = d;
        long b = x;
        long[] all = {b, b, a + b, a - b, a * b, a ^ b, a < b ? 1 : 0, a == b ? 1 : 0};
        return (int) all[op];
    }

    private static void runInstruction(int form, int op, int d, int x) {
        IfConverter c = new IfConverter(2, 1, 3);
        c.input(1, d);
        c.input(2, x);
        c.emit(1, op, 1, op == SET ? x : 2);
        c.convert();
        c.run(form, 2);
        due("op " + op + " of " + d + " and " + x, c.value(1, AFTER), result(op, d, x));
        due("the other operand", c.value(2, AFTER), x);
        due("another register", c.value(0, AFTER), 0);
    }

    private static void runOnSameRegister(int form, int op, int d) {
        IfConverter c = new IfConverter(2, 1, 2);
        c.input(1, d);
        c.emit(0, op, 1, 1);
        c.convert();
        c.run(form, 2);
        int want = op == SET ? 1 : result(op, d, d);
        due("op " + op + " of " + d + " and itself", c.value(1, AFTER), want);
    }

    // Promise 9.

    private static void value() {
        promise = 9;
        IfConverter x = region();
        due("AFTER without a record", x.value(1, AFTER), 0);
        due("BEFORE without a record", x.value(1, BEFORE), 5);
        due("run", x.run(SOURCE, 8), 8);
        due("AFTER", x.value(2, AFTER), 35);
        due("BEFORE", x.value(2, BEFORE), -2);
        x.input(2, 1000);
        due("AFTER with a later input", x.value(2, AFTER), 35);
        due("BEFORE with a later input", x.value(2, BEFORE), 1000);
        for (int n : new int[] {LEAST, -1, 4, 7, 8, GREATEST}) {
            due("value(" + n + ", BEFORE)", x.value(n, BEFORE), 0);
            due("value(" + n + ", AFTER)", x.value(n, AFTER), 0);
        }
        for (int n : new int[] {LEAST, -1, 2, GREATEST}) {
            due("value(2, " + n + ")", x.value(2, n), 0);
        }
        x.clear(7);
        due("AFTER when the record is dropped", x.value(2, AFTER), 0);
        due("BEFORE when the record is dropped", x.value(2, BEFORE), 1000);
        looksChangeNothing();
    }

    /** For all the calls that look: in every kind of state, looking twice gives the same. */
    private static void looksChangeNothing() {
        IfConverter[] all = {region(), converted(), recorded(SOURCE, 3), recorded(GUARDED, 3),
            recorded(RESTORED, 8)};
        for (IfConverter x : all) {
            int[] before = look(x);
            same("looking", look(x), before);
        }
    }

    // Promise 10.

    private static void ran() {
        promise = 10;
        IfConverter x = region();
        due("no record", x.ran(0), NONE);
        x.convert();
        due("no record, converted", x.ran(0), NONE);
        for (int form = SOURCE; form <= RESTORED; form++) {
            x.run(form, 4);
            int[] want = {1, 0, 1, 1, 0, 0, 0, 0};
            for (int b = 0; b < 8; b++) {
                due("ran(" + b + ") of form " + form, x.ran(b), want[b]);
            }
            for (int n : new int[] {LEAST, -1, 8, 32, GREATEST}) {
                due("ran(" + n + ")", x.ran(n), NONE);
            }
        }
        x.clear(7);
        due("dropped record", x.ran(0), NONE);
        x.run(SOURCE, 1);
        due("unconverted", x.ran(0), 1);
        due("unconverted, not run", x.ran(2), 0);
    }

    // Promise 11.

    private static void holds() {
        promise = 11;
        IfConverter x = converted();
        due("no record", x.holds(0), NONE);
        x.run(SOURCE, 8);
        due("record of SOURCE", x.holds(0), NONE);
        x.run(RESTORED, 8);
        due("record of RESTORED", x.holds(0), NONE);
        // Guards: 0 for blocks 0 and 5, then 1, 2, 3, 4 for the blocks of these numbers.
        holdsAfter(x, 0, 1, 0, 0, 0, 0);
        holdsAfter(x, 1, 1, 0, 1, 0, 0);
        holdsAfter(x, 2, 1, 0, 1, 0, 0);
        holdsAfter(x, 3, 1, 0, 1, 1, 0);
        holdsAfter(x, 8, 1, 0, 1, 1, 0);
        for (int n : new int[] {LEAST, -1, 5, 11, 12, 32, GREATEST}) {
            due("holds(" + n + ")", x.holds(n), NONE);
        }
        x.input(0, 1);
        due("a later input plays no part", x.holds(2), 1);
        holdsAfter(x, 1, 1, 1, 0, 0, 0);
        holdsAfter(x, 8, 1, 1, 0, 0, 0);
        x.convert();
        due("convert() keeps it", x.holds(1), 1);
        x.run(SOURCE, 8);
        due("a record of SOURCE in its place", x.holds(1), NONE);
        holdsAhead();
    }

    private static void holdsAfter(IfConverter x, int stop, int... want) {
        x.run(GUARDED, stop);
        for (int g = 0; g < want.length; g++) {
            due("run to " + stop + ", holds(" + g + ")", x.holds(g), want[g]);
        }
    }

    /** A guard is true as soon as all paths ahead have its blocks, though none of them has run. */
    private static void holdsAhead() {
        IfConverter x = new IfConverter(6, 1, 2);
        x.branch(0, 0, 1, 6);
        x.branch(1, 1, 2, 3);
        x.jump(2, 4);
        x.branch(4, 1, 5, 6);
        due("guards", x.convert(), 5);
        due("blocks 1 and 4 share a guard", x.guardOf(4), x.guardOf(1));
        x.input(0, 1);
        holdsAfter(x, 0, 1, 0, 0, 0, 0);
        holdsAfter(x, 1, 1, 1, 0, 0, 0);
        holdsAfter(x, 2, 1, 1, 0, 1, 0);
        holdsAfter(x, 6, 1, 1, 0, 1, 0);
        x.input(0, 0);
        holdsAfter(x, 1, 1, 0, 0, 0, 0);
    }

    // Promise 12.

    private static void guards() {
        promise = 12;
        IfConverter x = region();
        due("unconverted", x.guards(), NONE);
        due("it does not convert", x.guards(), NONE);
        due("run(GUARDED, 0)", x.run(GUARDED, 0), UNCONVERTED);
        x.convert();
        due("converted", x.guards(), 5);
        x.input(0, 3);
        x.run(RESTORED, 8);
        due("after an input and a run", x.guards(), 5);
        due("refused edit", x.jump(0, 0), BAD);
        due("after a refused edit", x.guards(), 5);
        x.jump(7, 8);
        due("after an edit", x.guards(), NONE);
    }

    // Promise 13.

    private static void guardOf() {
        promise = 13;
        IfConverter x = region();
        due("unconverted", x.guardOf(0), NONE);
        x.convert();
        guardsAre(x, 0, 1, 2, 3, 4, 0, NONE, NONE);
        for (int n : new int[] {LEAST, -1, 8, 32, GREATEST}) {
            due("guardOf(" + n + ")", x.guardOf(n), NONE);
        }
        x.jump(0, 2);
        due("after an edit", x.guardOf(0), NONE);
        x.convert();
        guardsAre(x, 0, NONE, 0, 1, 2, 0, NONE, NONE);
        x.branch(0, 0, 2, 2);
        x.branch(5, 0, 7, 8);
        x.convert();
        guardsAre(x, 0, NONE, 0, 1, 2, 0, NONE, 3);

        IfConverter chain = new IfConverter(5, 1, 2);
        chain.convert();
        guardsAre(chain, 0, 0, 0, 0, 0);
        IfConverter rungs = ladder();
        rungs.convert();
        guardsAre(rungs, 0, 1, 2, 3, 4, 5, 6, 7, 8, 9, 10, 11);
        // On every path from 1, but not every way to 4 leads through 1; and 3 the other way round.
        IfConverter halves = new IfConverter(5, 1, 2);
        halves.branch(0, 0, 1, 2);
        halves.jump(1, 4);
        halves.branch(2, 0, 3, 5);
        halves.convert();
        guardsAre(halves, 0, 1, 2, 3, 4);
        guardsStayFree();
    }

    private static void guardsAre(IfConverter x, int... want) {
        for (int b = 0; b < want.length; b++) {
            due("guardOf(" + b + ") of " + Arrays.toString(want), x.guardOf(b), want[b]);
        }
    }

    /** A larger block with an old guard takes no new number: the one after it gets the next. */
    private static void guardsStayFree() {
        IfConverter x = new IfConverter(8, 1, 2);
        x.branch(0, 0, 1, 7);
        x.branch(1, 0, 2, 3);
        x.jump(2, 4);
        x.branch(4, 0, 5, 6);
        x.convert();
        guardsAre(x, 0, 1, 2, 3, 1, 4, 1, 0);
    }

    // Promise 14.

    private static void depends() {
        promise = 14;
        IfConverter x = region();
        due("unconverted", x.depends(1, 0, 1), NONE);
        x.convert();
        int[][] ones = {{1, 0, 1}, {2, 0, 0}, {3, 2, 1}, {4, 2, 0}};
        dependsAre(x, 8, ones, 5);
        for (int n : new int[] {LEAST, -1, 8, 32, GREATEST}) {
            due("depends(" + n + ", 0, 1)", x.depends(n, 0, 1), NONE);
            due("depends(1, " + n + ", 1)", x.depends(1, n, 1), NONE);
        }
        for (int n : new int[] {LEAST, -1, 2, GREATEST}) {
            due("depends(1, 0, " + n + ")", x.depends(1, 0, n), NONE);
        }
        x.clear(7);
        due("after an edit", x.depends(1, 0, 1), NONE);

        IfConverter rungs = ladder();
        rungs.convert();
        int[][] next = new int[11][];
        for (int b = 1; b < 12; b++) {
            next[b - 1] = new int[] {b, b - 1, 1};
        }
        dependsAre(rungs, 12, next, 11);

        IfConverter equal = new IfConverter(3, 1, 2);
        equal.branch(0, 0, 2, 2);
        equal.branch(2, 0, 3, 3);
        equal.convert();
        due("same targets", equal.depends(2, 0, 1), 0);
        due("same targets", equal.depends(2, 0, 0), 0);
        due("target B", equal.depends(2, 2, 1), 0);
        due("unreachable b", equal.depends(1, 0, 1), NONE);
        due("unreachable a", equal.depends(2, 1, 1), NONE);
        // Block 4 is ahead of the whole true side of 0, and of one side of 2.
        IfConverter joined = new IfConverter(6, 1, 2);
        joined.branch(0, 0, 1, 2);
        joined.branch(1, 0, 3, 4);
        joined.branch(2, 0, 4, 5);
        joined.convert();
        int[][] both = {{1, 0, 1}, {4, 0, 1}, {2, 0, 0}, {3, 1, 1}, {4, 2, 1}};
        dependsAre(joined, 6, both, 5);
    }

    /** All answers for the blocks up to the last reachable one: 1 for those told, else 0. */
    private static void dependsAre(IfConverter x, int blocks, int[][] ones, int last) {
        for (int b = 0; b < blocks; b++) {
            for (int a = 0; a < blocks; a++) {
                for (int way = 0; way <= 1; way++) {
                    int want = b > last || a > last ? NONE : 0;
                    for (int[] one : ones) {
                        want = Arrays.equals(one, new int[] {b, a, way}) ? 1 : want;
                    }
                    String call = "depends(" + b + ", " + a + ", " + way + ")";
                    due(call, x.depends(b, a, way), want);
                }
            }
        }
    }

    // Promise 15.

    private static void restored() {
        promise = 15;
        IfConverter x = region();
        for (int part = TEST; part <= SIZE; part++) {
            due("unconverted", x.restored(0, part), NONE);
        }
        x.branch(3, 2, 5, 5);
        x.convert();
        blockIs("restored", 0, x, 0, 1, 2, 0);
        blockIs("restored", 1, x, NONE, 5, 5, 1);
        blockIs("restored", 2, x, 1, 3, 4, 1);
        blockIs("restored", 3, x, NONE, 5, 5, 1);
        blockIs("restored", 4, x, NONE, 5, 5, 1);
        blockIs("restored", 5, x, NONE, 8, 8, 1);
        blockIs("restored", 6, x, NONE, NONE, NONE, NONE);
        blockIs("restored", 7, x, NONE, NONE, NONE, NONE);
        for (int n : new int[] {LEAST, -1, 8, 32, GREATEST}) {
            due("restored(" + n + ", SIZE)", x.restored(n, SIZE), NONE);
            due("restored(0, part) of " + n, x.restored(0, n), NONE);
        }
        due("restored(0, 4)", x.restored(0, 4), NONE);
        x.branch(5, 3, 8, 6);
        due("after an edit", x.restored(0, ON_TRUE), NONE);
        x.convert();
        blockIs("restored", 5, x, 3, 8, 6, 1);
        blockIs("restored", 6, x, 3, 7, 8, 1);
        blockIs("restored", 7, x, NONE, 8, 8, 0);
    }

    private static void blockIs(String form, int b, IfConverter x, int... want) {
        for (int part = TEST; part <= SIZE; part++) {
            int got = form.equals("restored") ? x.restored(b, part) : x.source(b, part);
            due(form + "(" + b + ", " + part + ")", got, want[part]);
        }
    }

    // Promise 16.

    private static void source() {
        promise = 16;
        IfConverter x = region();
        x.branch(3, 2, 5, 5);
        for (int round = 0; round < 2; round++) {
            blockIs("source", 0, x, 0, 1, 2, 0);
            blockIs("source", 1, x, NONE, 5, 5, 1);
            blockIs("source", 2, x, 1, 3, 4, 1);
            blockIs("source", 3, x, 2, 5, 5, 1);
            blockIs("source", 5, x, NONE, 8, 8, 1);
            blockIs("source", 6, x, 3, 7, 8, 1);
            blockIs("source", 7, x, NONE, 8, 8, 0);
            for (int n : new int[] {LEAST, -1, 8, 32, GREATEST}) {
                due("source(" + n + ", SIZE)", x.source(n, SIZE), NONE);
                due("source(0, part) of " + n, x.source(0, n), NONE);
            }
            due("source(0, 4)", x.source(0, 4), NONE);
            x.convert();
        }
    }

    // Promise 17.

    private static void cell() {
        promise = 17;
        IfConverter x = region();
        x.emit(0, SET, 1, LEAST);
        x.emit(0, SUB, 3, 2);
        x.emit(0, SET, 2, GREATEST);
        x.emit(7, LESS, 2, 2);
        for (int round = 0; round < 2; round++) {
            cellIs(x, 0, 0, SET, 1, LEAST);
            cellIs(x, 0, 1, SUB, 3, 2);
            cellIs(x, 0, 2, SET, 2, GREATEST);
            cellIs(x, 0, 3, NONE, NONE, NONE);
            cellIs(x, 1, 0, SET, 2, 10);
            cellIs(x, 1, 1, NONE, NONE, NONE);
            cellIs(x, 6, 0, SET, 2, 60);
            cellIs(x, 7, 0, LESS, 2, 2);
            cellIs(x, 0, -1, NONE, NONE, NONE);
            cellIs(x, 1, -1, NONE, NONE, NONE);
            for (int n : new int[] {LEAST, -1, 8, 32, GREATEST}) {
                cellIs(x, n, 0, NONE, NONE, NONE);
                cellIs(x, 0, n, NONE, NONE, NONE);
                due("cell(0, 0, part) of " + n, x.cell(0, 0, n), NONE);
            }
            due("cell(0, 0, 3)", x.cell(0, 0, 3), NONE);
            x.convert();
        }
        x.clear(0);
        for (int i = -1; i <= 4; i++) {
            cellIs(x, 0, i, NONE, NONE, NONE);
        }
        x.emit(0, COPY, 0, 3);
        cellIs(x, 0, 0, COPY, 0, 3);
        cellIs(x, 0, 1, NONE, NONE, NONE);
    }

    private static void cellIs(IfConverter x, int b, int i, int... want) {
        for (int part = OP; part <= ARG; part++) {
            String call = "cell(" + b + ", " + i + ", " + part + ")";
            due(call, x.cell(b, i, part), want[part]);
        }
    }
}
