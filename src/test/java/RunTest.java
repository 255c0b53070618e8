/** Promises 7 to 11, sentence by sentence: the conversion, the run and what a record answers. */
public final class RunTest extends Checks {
    private static final int B = State.BLOCKS;
    private static final int R = State.REGS;
    private static final int[] NOT_ZERO = {LEAST, -65536, -256, -1, 1, 2, 256, 65536, GREATEST};

    public static void main(String[] args) {
        section("Promise 7");
        convertMakesConverted();
        convertAgain();
        convertCounts();
        convertKeepsTheRest();
        section("Promise 8");
        runBad();
        runUnconverted();
        runBadBeforeUnconverted();
        runSourceAnyTime();
        runOfAllForms();
        runStartsAfresh();
        runInOrder();
        runNextBlock();
        runAnswer();
        runReplacesTheRecord();
        runKeepsTheRest();
        runWithStop0();
        runWithStopB();
        section("Promise 9");
        valueOfNothing();
        valueBefore();
        valueAfter();
        valueAfterInputs();
        valueChangesNothing();
        section("Promise 10");
        ranNone();
        ranOfBlocks();
        ranOfAnyForm();
        ranChangesNothing();
        section("Promise 11");
        holdsNone();
        holdsOfGuards();
        holdsAtTheEnd();
        holdsWithStop0();
        holdsChangesNothing();
        finish();
    }

    // Promise 7.

    private static void convertMakesConverted() {
        sentence("convert() makes the source converted");
        for (State state : State.ALL) {
            IfConverter x = state.make();
            due(x, Call.convert(), State.GUARDS);
            due(x, Call.guards(), State.GUARDS);
            due(x, Call.guardOf(4), 4);
            due(x, Call.depends(1, 0, 1), 1);
            due(x, Call.restored(0, ON_TRUE), 1);
            due(x, Call.run(GUARDED, B), B);
            due(x, Call.run(RESTORED, B), B);
        }
        // What an earlier conversion found out must not stay.
        IfConverter x = State.CONVERTED.make();
        x.jump(0, 2);
        due(x, Call.convert(), 3);
        guardsAre(x, 0, NONE, 0, 1, 2, 0, NONE, NONE);
        x.branch(0, 3, 1, 6);
        due(x, Call.convert(), 4);
        guardsAre(x, 0, 1, NONE, NONE, NONE, 1, 2, 3);
        due(x, Call.restored(0, TEST), 3);
        due(x, Call.depends(6, 0, 0), 1);
    }

    private static void convertAgain() {
        sentence("if it is so already, nothing changes");
        for (State state : State.ALL_CONVERTED) {
            due(state.make(), Call.convert(), State.GUARDS);
            changesNothing(state, Call.convert());
        }
    }

    private static void convertCounts() {
        sentence("In both cases it answers the number of different guards, which is at least 1.");
        countIs(new IfConverter(2, 1, 2), 1);
        countIs(new IfConverter(12, 1, 2), 1);
        countIs(ladder(), 12);
        for (int blocks = 2; blocks <= 12; blocks++) {
            IfConverter out = new IfConverter(blocks, 1, 2);
            out.jump(0, blocks);
            countIs(out, 1);
            IfConverter fork = new IfConverter(blocks, 1, 2);
            fork.branch(0, 0, blocks, 1);
            countIs(fork, 2);
        }
    }

    private static void countIs(IfConverter x, int want) {
        due(x, Call.convert(), want);
        due(x, Call.convert(), want);
        due(x, Call.guards(), want);
    }

    private static void convertKeepsTheRest() {
        sentence("The text of the source, the inputs and the record (if any) are kept as they are.");
        for (State state : State.ALL) {
            IfConverter x = state.make();
            int[] text = Look.text(x, NONE);
            int holds = x.holds(0);
            x.convert();
            same("the text or an input changed", Look.text(x, NONE), text);
            due(x, Call.holds(0), holds);
            if (isIn(state, State.WITH_RECORD)) {
                recordIs(x, State.registersAfter(), 1, 0, 1, 1, 0, 0, 0, 0);
            } else {
                hasNoRecord(x, R);
            }
        }
    }

    private static boolean isIn(State state, State[] states) {
        for (State one : states) {
            if (one == state) {
                return true;
            }
        }
        return false;
    }

    private static void recordIs(IfConverter x, int[] registers, int... ran) {
        for (int r = 0; r < registers.length; r++) {
            due(x, Call.value(r, AFTER), registers[r]);
        }
        for (int b = 0; b < ran.length; b++) {
            due(x, Call.ran(b), ran[b]);
        }
    }

    // Promise 8.

    private static void runBad() {
        sentence("BAD if form is not in 0..2");
        for (int n : outside(SOURCE, RESTORED)) {
            for (int stop = 0; stop <= B; stop++) {
                refused(Call.run(n, stop), BAD);
            }
        }
        sentence("or stop is not in 0..B");
        for (int n : outside(0, B)) {
            for (int form = SOURCE; form <= RESTORED; form++) {
                refused(Call.run(form, n), BAD);
            }
        }
    }

    private static void runUnconverted() {
        sentence("Otherwise UNCONVERTED if form is not SOURCE and the source is not converted.");
        for (int stop = 0; stop <= B; stop++) {
            refused(Call.run(GUARDED, stop), UNCONVERTED, State.ALL_UNCONVERTED);
            refused(Call.run(RESTORED, stop), UNCONVERTED, State.ALL_UNCONVERTED);
        }
        IfConverter x = State.CONVERTED.make();
        x.jump(7, 8);
        due(x, Call.run(GUARDED, B), UNCONVERTED);
        due(x, Call.run(RESTORED, B), UNCONVERTED);
        x.convert();
        due(x, Call.run(GUARDED, B), B);
    }

    private static void runBadBeforeUnconverted() {
        sentence("BAD thus comes before UNCONVERTED.");
        for (int n : outside(0, B)) {
            refused(Call.run(GUARDED, n), BAD, State.ALL_UNCONVERTED);
            refused(Call.run(RESTORED, n), BAD, State.ALL_UNCONVERTED);
        }
        refused(Call.run(RESTORED + 1, 0), BAD, State.ALL_UNCONVERTED);
        refused(Call.run(SOURCE - 1, 0), BAD, State.ALL_UNCONVERTED);
    }

    private static void runSourceAnyTime() {
        sentence("SOURCE can be run whether converted or not.");
        for (State state : State.ALL) {
            IfConverter x = state.make();
            int guards = x.guards();
            due(x, Call.run(SOURCE, 4), 5);
            recordIs(x, State.registersAfter(), 1, 0, 1, 1, 0, 0, 0, 0);
            due(x, Call.guards(), guards);
        }
    }

    private static void runOfAllForms() {
        sentence("Otherwise all three forms give this outcome.");
        int[][] inputs = {{9, 0}, {0, 9}, {0, 0}};
        int[][] paths = {{0, 1, 5}, {0, 2, 3, 5}, {0, 2, 4, 5}};
        int[] results = {10, 30, 40};
        for (int form = SOURCE; form <= RESTORED; form++) {
            for (int k = 0; k < 3; k++) {
                IfConverter x = State.CONVERTED.make();
                x.input(0, inputs[k][0]);
                x.input(1, inputs[k][1]);
                for (int stop = 0; stop <= B; stop++) {
                    runsAlong(x, form, stop, paths[k]);
                }
                due(x, Call.value(2, AFTER), results[k]);
            }
        }
        overUnreachedBlocks();
        overTheSmallestAndTheLargest();
    }

    private static void runsAlong(IfConverter x, int form, int stop, int[] path) {
        int[] ran = new int[B];
        int c = B;
        for (int i = path.length - 1; i >= 0; i--) {
            ran[path[i]] = path[i] < stop ? 1 : 0;
            c = path[i] >= stop ? path[i] : c;
        }
        due(x, Call.run(form, stop), c);
        for (int b = 0; b < B; b++) {
            due(x, Call.ran(b), ran[b]);
        }
    }

    private static void overUnreachedBlocks() {
        for (int form = SOURCE; form <= RESTORED; form++) {
            IfConverter x = State.UNCONVERTED.make();
            x.jump(0, 5);
            x.convert();
            for (int stop = 1; stop <= 5; stop++) {
                due(x, Call.run(form, stop), 5);
                recordIs(x, new int[] {0, 5, -2, 77}, 1, 0, 0, 0, 0, 0, 0, 0);
            }
            due(x, Call.run(form, 6), 8);
            recordIs(x, new int[] {0, 5, -7, 77}, 1, 0, 0, 0, 0, 1, 0, 0);
        }
    }

    private static void overTheSmallestAndTheLargest() {
        for (int form = SOURCE; form <= RESTORED; form++) {
            IfConverter small = new IfConverter(2, 1, 2);
            small.branch(0, 1, 2, 1);
            small.emit(1, SET, 0, 6);
            small.convert();
            due(small, Call.run(form, 2), 2);
            due(small, Call.value(0, AFTER), 6);
            small.input(1, 1);
            due(small, Call.run(form, 1), 2);
            due(small, Call.value(0, AFTER), 0);
            IfConverter large = ladder();
            large.input(0, 1);
            large.emit(9, SET, 0, 0);
            large.convert();
            for (int stop = 0; stop <= 12; stop++) {
                due(large, Call.run(form, stop), stop < 10 ? stop : 12);
            }
        }
    }

    private static void runStartsAfresh() {
        sentence("The run's registers start as the inputs, and c starts as 0.");
        for (int form = SOURCE; form <= RESTORED; form++) {
            for (int before = SOURCE; before <= RESTORED; before++) {
                IfConverter x = new IfConverter(2, 1, 2);
                x.emit(0, ADD, 0, 1);
                x.input(0, LEAST);
                x.input(1, -1);
                x.convert();
                x.run(before, 2);
                due(x, Call.run(form, 2), 2);
                due(x, Call.value(0, AFTER), GREATEST);
                x.input(0, 7);
                due(x, Call.run(form, 1), 1);
                due(x, Call.value(0, AFTER), 6);
                due(x, Call.value(1, AFTER), -1);
                due(x, Call.ran(0), 1);
            }
        }
    }

    private static void runInOrder() {
        sentence("As long as c < stop, block c has run: its instructions take effect in order on the "
                + "run's registers");
        for (int form = SOURCE; form <= RESTORED; form++) {
            IfConverter x = new IfConverter(3, 4, 2);
            x.emit(0, SET, 0, 3);
            x.emit(0, COPY, 1, 0);
            x.emit(0, MUL, 0, 1);
            x.emit(0, SUB, 1, 0);
            x.emit(1, ADD, 0, 1);
            x.emit(2, SET, 0, 100);
            x.convert();
            x.run(form, 1);
            recordIs(x, new int[] {9, -6}, 1, 0, 0);
            x.run(form, 2);
            recordIs(x, new int[] {3, -6}, 1, 1, 0);
            x.run(form, 3);
            recordIs(x, new int[] {100, -6}, 1, 1, 1);
        }
    }

    private static void runNextBlock() {
        sentence("then c becomes the jump's target or, for a branch, ON_TRUE if the tested register (as "
                + "it is after these instructions) is not 0, else ON_FALSE");
        for (int form = SOURCE; form <= RESTORED; form++) {
            IfConverter x = new IfConverter(4, 1, 2);
            x.branch(0, 1, 2, 3);
            x.convert();
            due(x, Call.run(form, 1), 3);
            for (int n : NOT_ZERO) {
                x.input(1, n);
                due(x, Call.run(form, 1), 2);
            }
            x.emit(0, SET, 1, 0);
            x.convert();
            due(x, Call.run(form, 1), 3);
            x.clear(0);
            x.emit(0, SET, 1, LEAST);
            x.branch(0, 1, 2, 3);
            x.input(1, 0);
            x.convert();
            due(x, Call.run(form, 1), 2);
            x.branch(0, 1, 3, 3);
            x.convert();
            due(x, Call.run(form, 1), 3);
            x.jump(0, 2);
            x.convert();
            due(x, Call.run(form, 1), 2);
        }
    }

    private static void runAnswer() {
        sentence("The answer is the final c, which lies in stop..B.");
        for (int form = SOURCE; form <= RESTORED; form++) {
            for (int t = 1; t <= 12; t++) {
                IfConverter x = new IfConverter(12, 1, 2);
                x.branch(0, 0, t, 12);
                x.input(0, 1);
                x.convert();
                for (int stop = 1; stop <= 12; stop++) {
                    due(x, Call.run(form, stop), Math.max(stop, t));
                }
                x.input(0, 0);
                for (int stop = 1; stop <= 12; stop++) {
                    due(x, Call.run(form, stop), 12);
                }
            }
        }
    }

    private static void runReplacesTheRecord() {
        sentence("The record of this run (form, final registers, the blocks that have run, c) replaces "
                + "any earlier record.");
        for (State state : State.ALL_CONVERTED) {
            for (int form = SOURCE; form <= RESTORED; form++) {
                IfConverter x = state.make();
                x.run(form, B);
                recordIs(x, new int[] {0, 5, 30, 5}, 1, 0, 1, 1, 0, 1, 0, 0);
                x.input(0, 1);
                x.input(3, 3);
                x.run(form, 2);
                recordIs(x, new int[] {1, 5, 10, 3}, 1, 1, 0, 0, 0, 0, 0, 0);
                due(x, Call.holds(1), form == GUARDED ? 1 : NONE);
                due(x, Call.holds(2), form == GUARDED ? 0 : NONE);
                x.run(form, 0);
                recordIs(x, new int[] {1, 5, -2, 3}, 0, 0, 0, 0, 0, 0, 0, 0);
                due(x, Call.holds(1), form == GUARDED ? 0 : NONE);
            }
        }
    }

    private static void runKeepsTheRest() {
        sentence("The inputs, the source and the conversion stay as they are.");
        for (State state : State.ALL) {
            for (int form = SOURCE; form <= RESTORED; form++) {
                for (int stop = 0; stop <= B; stop++) {
                    IfConverter x = state.make();
                    int[] text = Look.text(x, NONE);
                    int guards = x.guards();
                    x.run(form, stop);
                    same("the text or an input changed", Look.text(x, NONE), text);
                    due(x, Call.guards(), guards);
                    if (guards != NONE) {
                        guardsAre(x, 0, 1, 2, 3, 4, 0, NONE, NONE);
                    }
                }
            }
        }
    }

    private static void runWithStop0() {
        sentence("With stop 0 no block runs, the final registers are the inputs, and the answer is 0.");
        for (State state : State.ALL) {
            IfConverter x = state.make();
            due(x, Call.run(SOURCE, 0), 0);
            recordIs(x, new int[] {0, 5, -2, 77}, 0, 0, 0, 0, 0, 0, 0, 0);
        }
        for (State state : State.ALL_CONVERTED) {
            for (int form = SOURCE; form <= RESTORED; form++) {
                IfConverter x = state.make();
                x.emit(0, SET, 0, 4);
                x.input(0, LEAST);
                x.convert();
                due(x, Call.run(form, 0), 0);
                recordIs(x, new int[] {LEAST, 5, -2, 77}, 0, 0, 0, 0, 0, 0, 0, 0);
            }
        }
    }

    private static void runWithStopB() {
        sentence("With stop B the run goes on until the region is left, and the answer is B.");
        for (int blocks = 2; blocks <= 12; blocks++) {
            for (int form = SOURCE; form <= RESTORED; form++) {
                IfConverter x = new IfConverter(blocks, 1, 2);
                x.input(1, 1);
                for (int b = 0; b < blocks; b++) {
                    x.emit(b, ADD, 0, 1);
                }
                x.convert();
                due(x, Call.run(form, blocks), blocks);
                due(x, Call.value(0, AFTER), blocks);
                x.branch(0, 0, blocks, 1);
                x.convert();
                due(x, Call.run(form, blocks), blocks);
                due(x, Call.value(0, AFTER), 1);
            }
        }
    }

    // Promise 9.

    private static void valueOfNothing() {
        sentence("0 if r is not in 0..R-1");
        for (int n : outside(0, R - 1)) {
            for (State state : State.ALL) {
                IfConverter x = state.make();
                due(x, Call.value(n, BEFORE), 0);
                due(x, Call.value(n, AFTER), 0);
            }
        }
        for (int regs = 2; regs <= 8; regs++) {
            IfConverter x = new IfConverter(2, 1, regs);
            for (int r = 0; r < regs; r++) {
                x.input(r, 7);
            }
            x.run(SOURCE, 2);
            for (int n : outside(0, regs - 1)) {
                due(x, Call.value(n, BEFORE), 0);
                due(x, Call.value(n, AFTER), 0);
            }
        }
        sentence("or when is neither BEFORE nor AFTER");
        for (int n : outside(BEFORE, AFTER)) {
            for (State state : State.ALL) {
                IfConverter x = state.make();
                for (int r = 0; r < R; r++) {
                    due(x, Call.value(r, n), 0);
                }
            }
        }
    }

    private static void valueBefore() {
        sentence("with BEFORE: the present input of register r");
        for (State state : State.ALL) {
            IfConverter x = state.make();
            due(x, Call.value(0, BEFORE), 0);
            due(x, Call.value(1, BEFORE), 5);
            due(x, Call.value(2, BEFORE), -2);
            due(x, Call.value(3, BEFORE), 77);
            x.input(2, GREATEST);
            due(x, Call.value(2, BEFORE), GREATEST);
            x.input(2, LEAST);
            due(x, Call.value(2, BEFORE), LEAST);
        }
    }

    private static void valueAfter() {
        sentence("with AFTER: register r at the end of the recorded run, or 0 if there is no record");
        for (State state : State.WITH_RECORD) {
            IfConverter x = state.make();
            for (int r = 0; r < R; r++) {
                due(x, Call.value(r, AFTER), State.registersAfter()[r]);
            }
            x.clear(7);
            hasNoRecord(x, R);
        }
        for (State state : State.WITHOUT_RECORD) {
            hasNoRecord(state.make(), R);
        }
    }

    private static void valueAfterInputs() {
        sentence("Inputs set after the recorded run show with BEFORE and do not affect AFTER.");
        for (State state : State.WITH_RECORD) {
            IfConverter x = state.make();
            for (int r = 0; r < R; r++) {
                x.input(r, -1000 - r);
            }
            for (int r = 0; r < R; r++) {
                due(x, Call.value(r, BEFORE), -1000 - r);
                due(x, Call.value(r, AFTER), State.registersAfter()[r]);
            }
        }
    }

    private static void valueChangesNothing() {
        sentence("The call changes nothing.");
        for (int r : new int[] {LEAST, -1, 0, 1, 2, 3, 4, 8, GREATEST}) {
            for (int when : new int[] {LEAST, -1, BEFORE, AFTER, 2, GREATEST}) {
                changesNothing(Call.value(r, when));
            }
        }
    }

    // Promise 10.

    private static void ranNone() {
        sentence("ran(b) answers NONE if there is no record");
        for (int b = 0; b < B; b++) {
            refused(Call.ran(b), NONE, State.WITHOUT_RECORD);
        }
        IfConverter x = State.CONVERTED_WITH_GUARDED_RECORD.make();
        x.jump(7, 8);
        due(x, Call.ran(0), NONE);
        sentence("or b is not in 0..B-1");
        for (int n : outside(0, B - 1)) {
            refused(Call.ran(n), NONE);
        }
    }

    private static void ranOfBlocks() {
        sentence("Otherwise it answers 1 if block b has run in the recorded run, else 0.");
        for (State state : State.WITH_RECORD) {
            recordIs(state.make(), State.registersAfter(), 1, 0, 1, 1, 0, 0, 0, 0);
        }
        for (int form = SOURCE; form <= RESTORED; form++) {
            IfConverter x = new IfConverter(12, 1, 2);
            x.convert();
            for (int stop = 0; stop <= 12; stop++) {
                x.run(form, stop);
                for (int b = 0; b < 12; b++) {
                    due(x, Call.ran(b), b < stop ? 1 : 0);
                }
            }
        }
    }

    private static void ranOfAnyForm() {
        sentence("The form of the record plays no part, nor does the conversion.");
        for (State state : State.WITH_RECORD) {
            IfConverter x = state.make();
            for (int b = 0; b < B; b++) {
                int before = x.ran(b);
                due("ran(" + b + ") of " + state, before, b == 0 || b == 2 || b == 3 ? 1 : 0);
                x.convert();
                due(x, Call.ran(b), before);
            }
            due(x, Call.ran(B), NONE);
        }
    }

    private static void ranChangesNothing() {
        sentence("The call changes nothing.");
        for (int b : new int[] {LEAST, -1, 0, 1, 2, 3, 4, 5, 6, 7, 8, 12, GREATEST}) {
            changesNothing(Call.ran(b));
        }
    }

    // Promise 11.

    private static void holdsNone() {
        sentence("NONE if there is no record");
        for (int g = 0; g < State.GUARDS; g++) {
            refused(Call.holds(g), NONE, State.WITHOUT_RECORD);
        }
        IfConverter x = State.CONVERTED_WITH_GUARDED_RECORD.make();
        x.clear(7);
        due(x, Call.holds(0), NONE);
        x.convert();
        due(x, Call.holds(0), NONE);
        sentence("or the record's form is not GUARDED");
        for (int g = 0; g < State.GUARDS; g++) {
            refused(Call.holds(g), NONE, State.WITH_UNGUARDED_RECORD);
        }
        IfConverter y = State.CONVERTED_WITH_GUARDED_RECORD.make();
        y.run(SOURCE, 4);
        due(y, Call.holds(0), NONE);
        y.run(GUARDED, 4);
        due(y, Call.holds(0), 1);
        y.run(RESTORED, 4);
        due(y, Call.holds(0), NONE);
        sentence("or g is not one of the guard numbers 0..guards()-1");
        for (int n : outside(0, State.GUARDS - 1)) {
            refused(Call.holds(n), NONE);
        }
        IfConverter all = ladder();
        all.convert();
        all.run(GUARDED, 12);
        due(all, Call.holds(11), 0);
        due(all, Call.holds(12), NONE);
        IfConverter one = new IfConverter(12, 1, 2);
        one.convert();
        one.run(GUARDED, 12);
        due(one, Call.holds(0), 1);
        due(one, Call.holds(1), NONE);
    }

    private static void holdsOfGuards() {
        sentence("Otherwise 1 if every complete path that begins with the blocks that have run (in that "
                + "order) and goes on with a path from the recorded c contains the blocks of guard g; "
                + "else 0.");
        IfConverter x = State.CONVERTED.make();
        holdAfter(x, 1, 1, 0, 1, 0, 0);
        holdAfter(x, 2, 1, 0, 1, 0, 0);
        holdAfter(x, 3, 1, 0, 1, 1, 0);
        holdAfter(x, 4, 1, 0, 1, 1, 0);
        x.input(1, 0);
        holdAfter(x, 3, 1, 0, 1, 0, 1);
        x.input(0, 1);
        due(x, Call.holds(2), 1);
        holdAfter(x, 1, 1, 1, 0, 0, 0);
        // Blocks 1 and 4 share a guard: it is true as soon as 1 is ahead. 5 hangs on 4 alone.
        IfConverter y = new IfConverter(6, 1, 2);
        y.branch(0, 0, 1, 6);
        y.branch(1, 1, 2, 3);
        y.jump(2, 4);
        y.branch(4, 1, 5, 6);
        due(y, Call.convert(), 5);
        guardsAre(y, 0, 1, 2, 3, 1, 4);
        y.input(0, 1);
        holdAfter(y, 1, 1, 1, 0, 0, 0);
        holdAfter(y, 2, 1, 1, 0, 1, 0);
        holdAfter(y, 4, 1, 1, 0, 1, 0);
        y.input(1, 1);
        holdAfter(y, 2, 1, 1, 1, 0, 0);
        holdAfter(y, 4, 1, 1, 1, 0, 0);
        holdAfter(y, 5, 1, 1, 1, 0, 1);
        holdsOfAJoin();
    }

    /** Block 4 lies on every path from 1 but only on one from 2, and from 0 on some. */
    private static void holdsOfAJoin() {
        IfConverter x = new IfConverter(6, 1, 2);
        x.branch(0, 0, 1, 2);
        x.branch(1, 1, 3, 4);
        x.branch(2, 1, 4, 5);
        x.jump(4, 5);
        due(x, Call.convert(), 5);
        guardsAre(x, 0, 1, 2, 3, 4, 0);
        holdAfter(x, 1, 1, 0, 1, 0, 0);
        holdAfter(x, 3, 1, 0, 1, 0, 0);
        x.input(1, 1);
        holdAfter(x, 3, 1, 0, 1, 0, 1);
        x.input(0, 1);
        holdAfter(x, 1, 1, 1, 0, 0, 1);
        holdAfter(x, 2, 1, 1, 0, 1, 1);
    }

    private static void holdAfter(IfConverter x, int stop, int... want) {
        x.run(GUARDED, stop);
        for (int g = 0; g < want.length; g++) {
            due("after run(GUARDED, " + stop + ") holds(" + g + ")", x.holds(g), want[g]);
        }
        due(x, Call.holds(want.length), NONE);
    }

    private static void holdsAtTheEnd() {
        sentence("If the recorded c is B, the one path in question is the path that was run.");
        IfConverter x = State.CONVERTED.make();
        holdAfter(x, 8, 1, 0, 1, 1, 0);
        holdAfter(x, 6, 1, 0, 1, 1, 0);
        x.input(1, 0);
        holdAfter(x, 8, 1, 0, 1, 0, 1);
        x.input(0, -1);
        holdAfter(x, 8, 1, 1, 0, 0, 0);
        IfConverter rungs = ladder();
        rungs.convert();
        holdAfter(rungs, 1, 1, 0, 0, 0, 0, 0, 0, 0, 0, 0, 0, 0);
        rungs.input(0, 1);
        holdAfter(rungs, 12, 1, 1, 1, 1, 1, 1, 1, 1, 1, 1, 1, 1);
    }

    private static void holdsWithStop0() {
        sentence("With stop 0 only guard 0 is true.");
        for (State state : State.ALL_CONVERTED) {
            holdAfter(state.make(), 0, 1, 0, 0, 0, 0);
        }
        IfConverter rungs = ladder();
        rungs.input(0, 1);
        rungs.convert();
        holdAfter(rungs, 0, 1, 0, 0, 0, 0, 0, 0, 0, 0, 0, 0, 0);
        holdAfter(rungs, 12, 1, 1, 1, 1, 1, 1, 1, 1, 1, 1, 1, 1);
        holdAfter(rungs, 0, 1, 0, 0, 0, 0, 0, 0, 0, 0, 0, 0, 0);
        IfConverter chain = new IfConverter(3, 1, 2);
        chain.convert();
        holdAfter(chain, 0, 1);
    }

    private static void holdsChangesNothing() {
        sentence("The call changes nothing.");
        for (int g : new int[] {LEAST, -1, 0, 1, 2, 3, 4, 5, 8, 12, GREATEST}) {
            changesNothing(Call.holds(g));
        }
    }
}
