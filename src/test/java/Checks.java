import java.util.Arrays;

/**
 * What the tests share that go through the document sentence by sentence: short names for the
 * constants, and the count of the answers that are not as due, each told under its sentence.
 */
abstract class Checks {
    static final int LEAST = Integer.MIN_VALUE;
    static final int GREATEST = Integer.MAX_VALUE;

    static final int OK = IfConverter.OK;
    static final int NONE = IfConverter.NONE;
    static final int BAD = IfConverter.BAD;
    static final int FULL = IfConverter.FULL;
    static final int UNCONVERTED = IfConverter.UNCONVERTED;
    static final int SET = IfConverter.SET;
    static final int COPY = IfConverter.COPY;
    static final int ADD = IfConverter.ADD;
    static final int SUB = IfConverter.SUB;
    static final int MUL = IfConverter.MUL;
    static final int XOR = IfConverter.XOR;
    static final int LESS = IfConverter.LESS;
    static final int EQUAL = IfConverter.EQUAL;
    static final int SOURCE = IfConverter.SOURCE;
    static final int GUARDED = IfConverter.GUARDED;
    static final int RESTORED = IfConverter.RESTORED;
    static final int TEST = IfConverter.TEST;
    static final int ON_TRUE = IfConverter.ON_TRUE;
    static final int ON_FALSE = IfConverter.ON_FALSE;
    static final int SIZE = IfConverter.SIZE;
    static final int OP = IfConverter.OP;
    static final int DEST = IfConverter.DEST;
    static final int ARG = IfConverter.ARG;
    static final int BEFORE = IfConverter.BEFORE;
    static final int AFTER = IfConverter.AFTER;

    private static final int TOLD_AT_MOST = 10;
    // Beside the two ends, numbers that would pass for a small one if bits were lost.
    private static final int[] FAR = {LEAST, LEAST + 1, -65536, -256, -32, -2, 15, 16, 31, 32, 33, 64,
        256, 65536, GREATEST - 1, GREATEST};

    private static String section = "";
    private static String sentence = "";
    private static int sentences = 0;
    private static int answers = 0;
    private static int wrong = 0;
    private static int wrongHere = 0;

    static void section(String name) {
        section = name;
    }

    /** What follows is the test of this sentence. */
    static void sentence(String words) {
        sentence = words;
        sentences++;
        wrongHere = 0;
    }

    static void due(String what, int got, int want) {
        answers++;
        if (got != want) {
            tell(what + " answered " + got + ", due is " + want);
        }
    }

    static void due(IfConverter x, Call call, int want) {
        answers++;
        int got = call.on(x);
        if (got != want) {
            tell(call + " answered " + got + ", due is " + want);
        }
    }

    static void same(String what, int[] got, int[] want) {
        answers++;
        if (!Arrays.equals(got, want)) {
            tell(what);
        }
    }

    private static void tell(String fault) {
        wrong++;
        wrongHere++;
        if (wrongHere <= TOLD_AT_MOST) {
            System.out.println(section + ", \"" + sentence + "\": " + fault);
        }
    }

    static void refused(Call call, int want) {
        refused(call, want, State.ALL);
    }

    /** The call answers so in each of these states, and changes nothing there. */
    static void refused(Call call, int want, State... states) {
        for (State state : states) {
            due(state.make(), call, want);
            changesNothing(state, call);
        }
    }

    static void changesNothing(Call call) {
        for (State state : State.ALL) {
            changesNothing(state, call);
        }
    }

    /** Nothing tells an object after these calls from one without them. */
    static void changesNothing(State state, Call... calls) {
        String fault = Arrays.toString(calls) + " changed something, " + state;
        same(fault, Look.now(after(state, calls)), Look.now(state.make()));
        same(fault, Look.nowBackwards(after(state, calls)), Look.nowBackwards(state.make()));
        same(fault + ", as later calls show", Look.ahead(after(state, calls)), Look.ahead(state.make()));
    }

    private static IfConverter after(State state, Call... calls) {
        IfConverter x = state.make();
        for (Call call : calls) {
            call.on(x);
        }
        return x;
    }

    /** Numbers that are not in the range: its two neighbours and some far ones. */
    static int[] outside(int least, int greatest) {
        int[] all = Arrays.copyOf(FAR, FAR.length + 3);
        all[FAR.length] = least - 1;
        all[FAR.length + 1] = greatest + 1;
        all[FAR.length + 2] = greatest + 2;
        return Arrays.stream(all).filter(n -> n < least || n > greatest).distinct().toArray();
    }

    static void blockIs(IfConverter x, int b, int test, int onTrue, int onFalse, int size) {
        due(x, Call.source(b, TEST), test);
        due(x, Call.source(b, ON_TRUE), onTrue);
        due(x, Call.source(b, ON_FALSE), onFalse);
        due(x, Call.source(b, SIZE), size);
    }

    static void cellIs(IfConverter x, int b, int i, int op, int d, int arg) {
        due(x, Call.cell(b, i, OP), op);
        due(x, Call.cell(b, i, DEST), d);
        due(x, Call.cell(b, i, ARG), arg);
    }

    static void guardsAre(IfConverter x, int... want) {
        for (int b = 0; b < want.length; b++) {
            due(x, Call.guardOf(b), want[b]);
        }
    }

    static void isUnconverted(IfConverter x) {
        due(x, Call.guards(), NONE);
        due(x, Call.guardOf(0), NONE);
        due(x, Call.depends(1, 0, 1), NONE);
        due(x, Call.restored(0, SIZE), NONE);
        due(x, Call.run(GUARDED, 0), UNCONVERTED);
        due(x, Call.run(RESTORED, 0), UNCONVERTED);
    }

    static void hasNoRecord(IfConverter x, int regs) {
        due(x, Call.ran(0), NONE);
        due(x, Call.holds(0), NONE);
        for (int r = 0; r < regs; r++) {
            due(x, Call.value(r, AFTER), 0);
        }
    }

    /** From each block to the next one or out: all twelve blocks have guards of their own. */
    static IfConverter ladder() {
        IfConverter x = new IfConverter(12, 1, 2);
        for (int b = 0; b < 12; b++) {
            x.branch(b, 0, b + 1, 12);
        }
        return x;
    }

    static void finish() {
        if (wrong != 0) {
            System.out.println(wrong + " of " + answers + " answers are not as due");
            System.exit(1);
        }
        System.out.println(sentences + " sentences hold, " + answers + " answers are as due");
    }
}
