/**
 * An if-converter for a small region of basic blocks without loops. The source is branching code;
 * converting it makes guarded straight-line code, and from that code alone branching code again.
 *
 * <p>A set of blocks or of guards is an int with one bit for each member: there are at most 12.
 */
public final class IfConverter {
    public static final int OK = 1;
    public static final int NONE = -1;
    public static final int BAD = -2;
    public static final int FULL = -3;
    public static final int UNCONVERTED = -4;

    public static final int SET = 0;
    public static final int COPY = 1;
    public static final int ADD = 2;
    public static final int SUB = 3;
    public static final int MUL = 4;
    public static final int XOR = 5;
    public static final int LESS = 6;
    public static final int EQUAL = 7;

    public static final int SOURCE = 0;
    public static final int GUARDED = 1;
    public static final int RESTORED = 2;

    public static final int TEST = 0;
    public static final int ON_TRUE = 1;
    public static final int ON_FALSE = 2;
    public static final int SIZE = 3;

    public static final int OP = 0;
    public static final int DEST = 1;
    public static final int ARG = 2;

    public static final int BEFORE = 0;
    public static final int AFTER = 1;

    public static final int MAX_BLOCKS = 12;
    public static final int MAX_CELLS = 4;
    public static final int MAX_REGS = 8;

    private static final int MIN_BLOCKS = 2;
    private static final int MIN_CELLS = 1;
    private static final int MIN_REGS = 2;
    private static final int ALL_CELLS = MAX_BLOCKS * MAX_CELLS;

    private static final int WAY_FALSE = 0;
    private static final int WAY_TRUE = 1;
    private static final int ALL_BLOCKS = -1;
    private static final int GUARD_0_ALONE = 1;
    // What an unreachable block has for a guard: a number that is in no set, so it never holds.
    private static final int NO_GUARD = MAX_BLOCKS;

    private final int blockCount;
    private final int cellCount;
    private final int regCount;
    private final int[] inputs = new int[MAX_REGS];

    // The source. The other forms share its instructions: an edit makes the source unconverted, so
    // these never change while the other forms can be run.
    private final int[] sizes = new int[MAX_BLOCKS];
    private final int[] ops = new int[ALL_CELLS];
    private final int[] dests = new int[ALL_CELLS];
    private final int[] args = new int[ALL_CELLS];
    private final int[] tests = new int[MAX_BLOCKS];
    private final int[] trueTargets = new int[MAX_BLOCKS];
    private final int[] falseTargets = new int[MAX_BLOCKS];

    // What is known of the source's paths while it is converted. A block counts as one of those on
    // every path from it, so that it is found to depend on an edge that leads right to it.
    private boolean converted = false;
    private int reachable = 0;
    private final int[] onEveryWayTo = new int[MAX_BLOCKS];
    private final int[] onEveryPath = new int[MAX_BLOCKS];

    // The guarded form: each block's guard, and the guards that its ending makes true.
    private int guardCount = 0;
    private final int[] guardNumbers = new int[MAX_BLOCKS];
    private final int[] guardsOnTrue = new int[MAX_BLOCKS];
    private final int[] guardsOnFalse = new int[MAX_BLOCKS];

    // The restored form.
    private final int[] heldOnEntry = new int[MAX_BLOCKS];
    private final int[] restoredTests = new int[MAX_BLOCKS];
    private final int[] restoredTrue = new int[MAX_BLOCKS];
    private final int[] restoredFalse = new int[MAX_BLOCKS];

    // The record of the last run; its form is NONE if there is no record.
    private int recordForm = NONE;
    private final int[] finalRegs = new int[MAX_REGS];
    private int ranBlocks = 0;
    private int heldGuards = 0;

    public IfConverter(int blocks, int cells, int regs) {
        blockCount = clamp(blocks, MIN_BLOCKS, MAX_BLOCKS);
        cellCount = clamp(cells, MIN_CELLS, MAX_CELLS);
        regCount = clamp(regs, MIN_REGS, MAX_REGS);
        for (int b = 0; b < blockCount; b++) {
            setEnding(b, NONE, b + 1, b + 1);
        }
    }

    public int emit(int b, int op, int d, int x) {
        if (!isBlock(b) || op < SET || op > EQUAL || !isRegister(d)) {
            return BAD;
        }
        if (op != SET && !isRegister(x)) {
            return BAD;
        }
        if (sizes[b] >= cellCount) {
            return FULL;
        }
        int at = placeOf(b, sizes[b]);
        ops[at] = op;
        dests[at] = d;
        args[at] = x;
        sizes[b]++;
        return acceptEdit();
    }

    public int jump(int b, int t) {
        if (!isBlock(b) || !isTargetOf(b, t)) {
            return BAD;
        }
        setEnding(b, NONE, t, t);
        return acceptEdit();
    }

    public int branch(int b, int r, int t, int f) {
        if (!isBlock(b) || !isRegister(r) || !isTargetOf(b, t) || !isTargetOf(b, f)) {
            return BAD;
        }
        setEnding(b, r, t, f);
        return acceptEdit();
    }

    public int clear(int b) {
        if (!isBlock(b)) {
            return BAD;
        }
        sizes[b] = 0;
        setEnding(b, NONE, b + 1, b + 1);
        return acceptEdit();
    }

    public int input(int r, int v) {
        if (!isRegister(r)) {
            return BAD;
        }
        inputs[r] = v;
        return OK;
    }

    public int convert() {
        if (!converted) {
            findWaysToBlocks();
            findPathsFromBlocks();
            numberGuards();
            defineGuards();
            restoreEndings();
            converted = true;
        }
        return guardCount;
    }

    public int run(int form, int stop) {
        if (form < SOURCE || form > RESTORED || stop < 0 || stop > blockCount) {
            return BAD;
        }
        if (form != SOURCE && !converted) {
            return UNCONVERTED;
        }
        startRecord(form);
        if (form == GUARDED) {
            return runStraight(stop);
        }
        if (form == RESTORED) {
            return runBranching(stop, restoredTests, restoredTrue, restoredFalse);
        }
        return runBranching(stop, tests, trueTargets, falseTargets);
    }

    public int value(int r, int when) {
        if (!isRegister(r)) {
            return 0;
        }
        if (when == BEFORE) {
            return inputs[r];
        }
        if (when == AFTER && recordForm != NONE) {
            return finalRegs[r];
        }
        return 0;
    }

    public int ran(int b) {
        if (recordForm == NONE || !isBlock(b)) {
            return NONE;
        }
        return has(ranBlocks, b) ? 1 : 0;
    }

    public int holds(int g) {
        if (recordForm != GUARDED || g < 0 || g >= guardCount) {
            return NONE;
        }
        return has(heldGuards, g) ? 1 : 0;
    }

    public int guards() {
        return converted ? guardCount : NONE;
    }

    public int guardOf(int b) {
        return isConvertedBlock(b) ? guardNumbers[b] : NONE;
    }

    public int depends(int b, int a, int way) {
        if (!isConvertedBlock(b) || !isConvertedBlock(a) || way < WAY_FALSE || way > WAY_TRUE) {
            return NONE;
        }
        int target = way == WAY_TRUE ? trueTargets[a] : falseTargets[a];
        int dependents = dependentsOfEdge(a, target);
        return has(dependents, b) ? 1 : 0;
    }

    public int restored(int b, int part) {
        if (!isConvertedBlock(b)) {
            return NONE;
        }
        return partOf(b, part, restoredTests, restoredTrue, restoredFalse);
    }

    public int source(int b, int part) {
        if (!isBlock(b)) {
            return NONE;
        }
        return partOf(b, part, tests, trueTargets, falseTargets);
    }

    public int cell(int b, int i, int part) {
        if (!isBlock(b) || i < 0 || i >= sizes[b]) {
            return NONE;
        }
        int at = placeOf(b, i);
        switch (part) {
            case OP:
                return ops[at];
            case DEST:
                return dests[at];
            case ARG:
                return args[at];
            default:
                return NONE;
        }
    }

    private static int clamp(int n, int least, int greatest) {
        if (n < least) {
            return least;
        }
        return n > greatest ? greatest : n;
    }

    private static boolean has(int set, int member) {
        return (set >> member & 1) != 0;
    }

    private boolean isBlock(int b) {
        return b >= 0 && b < blockCount;
    }

    private boolean isRegister(int r) {
        return r >= 0 && r < regCount;
    }

    private boolean isTargetOf(int b, int t) {
        return t > b && t <= blockCount;
    }

    private boolean isConvertedBlock(int b) {
        return converted && isBlock(b) && has(reachable, b);
    }

    private static int placeOf(int b, int i) {
        return b * MAX_CELLS + i;
    }

    private int partOf(int b, int part, int[] test, int[] onTrue, int[] onFalse) {
        switch (part) {
            case TEST:
                return test[b];
            case ON_TRUE:
                return onTrue[b];
            case ON_FALSE:
                return onFalse[b];
            case SIZE:
                return sizes[b];
            default:
                return NONE;
        }
    }

    private void setEnding(int b, int test, int onTrue, int onFalse) {
        tests[b] = test;
        trueTargets[b] = onTrue;
        falseTargets[b] = onFalse;
    }

    private int acceptEdit() {
        converted = false;
        recordForm = NONE;
        return OK;
    }

    private void findWaysToBlocks() {
        reachable = 1;
        onEveryWayTo[0] = 0;
        for (int b = 1; b < blockCount; b++) {
            onEveryWayTo[b] = ALL_BLOCKS;
        }
        // Edges lead to greater numbers only, so all ways to b are known when b's turn comes.
        for (int b = 0; b < blockCount; b++) {
            if (has(reachable, b)) {
                int passed = onEveryWayTo[b] | 1 << b;
                addWayTo(trueTargets[b], passed);
                addWayTo(falseTargets[b], passed);
            }
        }
    }

    private void addWayTo(int target, int passed) {
        if (target < blockCount) {
            reachable |= 1 << target;
            onEveryWayTo[target] &= passed;
        }
    }

    private void findPathsFromBlocks() {
        for (int b = blockCount - 1; b >= 0; b--) {
            int onTrue = onEveryPathFrom(trueTargets[b]);
            int onFalse = onEveryPathFrom(falseTargets[b]);
            onEveryPath[b] = onTrue & onFalse | 1 << b;
        }
    }

    private int onEveryPathFrom(int target) {
        return target < blockCount ? onEveryPath[target] : 0;
    }

    private void numberGuards() {
        guardCount = 0;
        for (int b = 0; b < blockCount; b++) {
            guardNumbers[b] = has(reachable, b) ? sharedOrNextGuard(b) : NO_GUARD;
            if (guardNumbers[b] == guardCount) {
                guardCount++;
            }
        }
    }

    private int sharedOrNextGuard(int b) {
        // Edges lead to greater numbers only, so a smaller block is never passed after b: that b is
        // sure of it can be seen on the ways to b alone, and the reverse on the paths from it.
        for (int a = 0; a < b; a++) {
            if (has(onEveryWayTo[b], a) && has(onEveryPath[a], b)) {
                return guardNumbers[a];
            }
        }
        return guardCount;
    }

    private void defineGuards() {
        for (int a = 0; a < blockCount; a++) {
            if (has(reachable, a)) {
                guardsOnTrue[a] = guardsMadeTrue(a, trueTargets[a]);
                guardsOnFalse[a] = guardsMadeTrue(a, falseTargets[a]);
            }
        }
    }

    private int guardsMadeTrue(int a, int target) {
        int dependents = dependentsOfEdge(a, target);
        int made = 0;
        for (int b = 0; b < blockCount; b++) {
            if (has(dependents, b)) {
                made |= 1 << guardNumbers[b];
            }
        }
        return made;
    }

    private int dependentsOfEdge(int a, int target) {
        // What is sure to run whichever way block a goes does not hang on this edge.
        return onEveryPathFrom(target) & ~onEveryPath[a];
    }

    /** Recovers the edges from the guarded form alone: the next block is the next whose guard holds. */
    private void restoreEndings() {
        heldOnEntry[0] = GUARD_0_ALONE;
        for (int b = 0; b < blockCount; b++) {
            if (has(reachable, b)) {
                restoredTrue[b] = restoreEdge(b, guardsOnTrue[b]);
                restoredFalse[b] = restoreEdge(b, guardsOnFalse[b]);
                restoredTests[b] = restoredTrue[b] == restoredFalse[b] ? NONE : tests[b];
            }
        }
    }

    private int restoreEdge(int b, int made) {
        int held = heldOnEntry[b] | made;
        int target = nextHeldBlock(b + 1, held);
        // Ways that meet in a block can differ in the guards of blocks before it, never in those of
        // blocks after it, so whichever way writes last will do.
        if (target < blockCount) {
            heldOnEntry[target] = held;
        }
        return target;
    }

    private int nextHeldBlock(int first, int held) {
        for (int b = first; b < blockCount; b++) {
            if (has(held, guardNumbers[b])) {
                return b;
            }
        }
        return blockCount;
    }

    private void startRecord(int form) {
        recordForm = form;
        ranBlocks = 0;
        heldGuards = GUARD_0_ALONE;
        for (int r = 0; r < regCount; r++) {
            finalRegs[r] = inputs[r];
        }
    }

    private int runStraight(int stop) {
        for (int b = 0; b < stop; b++) {
            if (has(heldGuards, guardNumbers[b])) {
                runBlock(b);
                heldGuards |= goesOnTrue(tests[b]) ? guardsOnTrue[b] : guardsOnFalse[b];
            }
        }
        // A block that is jumped over is on no path ahead, so its guard doesn't hold: the first one
        // that holds is where branching code would be.
        return nextHeldBlock(stop, heldGuards);
    }

    private int runBranching(int stop, int[] test, int[] onTrue, int[] onFalse) {
        int c = 0;
        for (int b = 0; b < stop; b++) {
            if (b == c) {
                runBlock(b);
                c = goesOnTrue(test[b]) ? onTrue[b] : onFalse[b];
            }
        }
        return c;
    }

    private void runBlock(int b) {
        ranBlocks |= 1 << b;
        for (int i = 0; i < sizes[b]; i++) {
            int at = placeOf(b, i);
            runInstruction(at);
        }
    }

    private boolean goesOnTrue(int test) {
        return test == NONE || finalRegs[test] != 0;
    }

    private void runInstruction(int at) {
        int d = dests[at];
        int right = ops[at] == SET ? args[at] : finalRegs[args[at]];
        finalRegs[d] = resultOf(ops[at], finalRegs[d], right);
    }

    private static int resultOf(int op, int left, int right) {
        switch (op) {
            case ADD:
                return left + right;
            case SUB:
                return left - right;
            case MUL:
                return left * right;
            case XOR:
                return left ^ right;
            case LESS:
                return left < right ? 1 : 0;
            case EQUAL:
                return left == right ? 1 : 0;
            default:
                // SET and COPY: the old value plays no part.
                return right;
        }
    }
}
