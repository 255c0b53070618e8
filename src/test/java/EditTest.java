/** Promises 1 to 6, sentence by sentence: the start, the edits and the inputs. */
public final class EditTest extends Checks {
    private static final int B = State.BLOCKS;
    private static final int R = State.REGS;

    public static void main(String[] args) {
        section("Promise 1");
        clamps();
        below();
        above();
        sizesStay();
        emptyAtTheStart();
        inputsAtTheStart();
        nothingDoneAtTheStart();
        objectsAreApart();
        section("Promise 2");
        emitAppends();
        emitBad();
        emitAnyNumber();
        emitFull();
        emitBadBeforeFull();
        emitIsAnEdit();
        emitKeepsTheRest();
        section("Promise 3");
        jumpReplacesTheEnding();
        jumpBad();
        jumpIsAnEdit();
        jumpKeepsTheRest();
        section("Promise 4");
        branchReplacesTheEnding();
        branchBad();
        branchIsAnEdit();
        branchWithSameTargets();
        branchKeepsTheRest();
        section("Promise 5");
        clearEmpties();
        clearBad();
        clearIsAnEdit();
        clearKeepsTheRest();
        section("Promise 6");
        inputAnyNumber();
        inputBad();
        inputIsSet();
        inputIsNoEdit();
        finish();
    }

    // Promise 1.

    private static void clamps() {
        sentence("IfConverter(blocks, cells, regs) accepts every int for each argument and clamps: B is "
                + "blocks clamped into 2..12, C is cells clamped into 1..4, R is regs clamped into 2..8.");
        for (int b = 2; b <= 12; b++) {
            sizesAre(new IfConverter(b, 2, 3), b, 2, 3);
        }
        for (int c = 1; c <= 4; c++) {
            sizesAre(new IfConverter(5, c, 3), 5, c, 3);
        }
        for (int r = 2; r <= 8; r++) {
            sizesAre(new IfConverter(5, 2, r), 5, 2, r);
        }
        for (int n : outside(0, 0)) {
            int b = Math.min(Math.max(n, 2), 12);
            int c = Math.min(Math.max(n, 1), 4);
            int r = Math.min(Math.max(n, 2), 8);
            sizesAre(new IfConverter(n, n, n), b, c, r);
        }
        sizesAre(new IfConverter(GREATEST, LEAST, GREATEST), 12, 1, 8);
        sizesAre(new IfConverter(LEAST, GREATEST, LEAST), 2, 4, 2);
    }

    private static void below() {
        sentence("A value below the least becomes the least");
        for (int n : new int[] {LEAST, LEAST + 1, -13, -12, -1, 0}) {
            sizesAre(new IfConverter(n, 3, 5), 2, 3, 5);
            sizesAre(new IfConverter(7, n, 5), 7, 1, 5);
            sizesAre(new IfConverter(7, 3, n), 7, 3, 2);
        }
        sizesAre(new IfConverter(1, 3, 5), 2, 3, 5);
        sizesAre(new IfConverter(7, 3, 1), 7, 3, 2);
    }

    private static void above() {
        sentence("a value above the greatest becomes the greatest");
        for (int n : new int[] {13, 14, 32, 258, 65538, GREATEST - 1, GREATEST}) {
            sizesAre(new IfConverter(n, 3, 5), 12, 3, 5);
            sizesAre(new IfConverter(7, n, 5), 7, 4, 5);
            sizesAre(new IfConverter(7, 3, n), 7, 3, 8);
        }
        sizesAre(new IfConverter(7, 5, 5), 7, 4, 5);
        sizesAre(new IfConverter(7, 3, 9), 7, 3, 8);
    }

    /** Where the calls draw the line tells B, C and R. Block B-1 is emptied first. */
    private static void sizesAre(IfConverter x, int b, int c, int r) {
        due(x, Call.clear(b), BAD);
        due(x, Call.clear(b - 1), OK);
        for (int i = 0; i < c; i++) {
            due(x, Call.emit(b - 1, COPY, r - 1, r - 1), OK);
        }
        due(x, Call.emit(b - 1, COPY, r - 1, r - 1), FULL);
        due(x, Call.emit(b, COPY, 0, 0), BAD);
        due(x, Call.emit(b - 1, COPY, r, 0), BAD);
        due(x, Call.emit(b - 1, COPY, 0, r), BAD);
        due(x, Call.jump(b - 2, b + 1), BAD);
        due(x, Call.jump(b - 2, b), OK);
        due(x, Call.branch(b - 1, r, b, b), BAD);
        due(x, Call.branch(b - 1, r - 1, b, b), OK);
        due(x, Call.branch(b - 1, r - 1, b, b + 1), BAD);
        due(x, Call.branch(b - 1, r - 1, b + 1, b), BAD);
        due(x, Call.input(r, 1), BAD);
        due(x, Call.input(r - 1, 9), OK);
        due(x, Call.value(r - 1, BEFORE), 9);
        due(x, Call.value(r, BEFORE), 0);
        due(x, Call.source(b - 1, SIZE), c);
        due(x, Call.source(b, SIZE), NONE);
        due(x, Call.cell(b - 1, c - 1, DEST), r - 1);
        due(x, Call.cell(b - 1, c, DEST), NONE);
        due(x, Call.run(SOURCE, b + 1), BAD);
        due(x, Call.run(SOURCE, b), b);
        due(x, Call.value(r - 1, AFTER), 9);
        due(x, Call.ran(b), NONE);
    }

    private static void sizesStay() {
        sentence("B, C and R never change afterwards.");
        for (int b = 2; b <= 12; b++) {
            IfConverter x = new IfConverter(b, 2, 3);
            for (int k = 0; k < 3; k++) {
                sizesAre(x, b, 2, 3);
                x.convert();
                x.run(GUARDED, b);
                x.run(RESTORED, 0);
                for (int n : outside(0, 12)) {
                    x.emit(n, n, n, n);
                    x.jump(n, n);
                    x.branch(0, 0, n, n);
                    x.input(n, n);
                    x.run(SOURCE, n);
                }
            }
        }
    }

    private static void emptyAtTheStart() {
        sentence("At the start every block b is empty and ends with a jump to b+1 (so block B-1 ends "
                + "with a jump to B).");
        for (int blocks = 2; blocks <= 12; blocks++) {
            IfConverter x = new IfConverter(blocks, 4, 2);
            for (int b = 0; b < blocks; b++) {
                blockIs(x, b, NONE, b + 1, b + 1, 0);
                cellIs(x, b, 0, NONE, NONE, NONE);
            }
            due(x, Call.source(blocks - 1, ON_TRUE), blocks);
            due(x, Call.run(SOURCE, blocks), blocks);
            for (int b = 0; b < blocks; b++) {
                due(x, Call.ran(b), 1);
            }
        }
    }

    private static void inputsAtTheStart() {
        sentence("All inputs are 0.");
        for (int regs = 2; regs <= 8; regs++) {
            IfConverter x = new IfConverter(2, 1, regs);
            for (int r = 0; r < regs; r++) {
                due(x, Call.value(r, BEFORE), 0);
            }
            x.run(SOURCE, 2);
            for (int r = 0; r < regs; r++) {
                due(x, Call.value(r, AFTER), 0);
            }
        }
    }

    private static void nothingDoneAtTheStart() {
        sentence("The source is unconverted and there is no record.");
        for (int n : new int[] {LEAST, 5, GREATEST}) {
            IfConverter x = new IfConverter(n, n, n);
            isUnconverted(x);
            hasNoRecord(x, 2);
        }
        IfConverter y = new IfConverter(5, 2, 3);
        y.input(0, 8);
        hasNoRecord(y, 3);
    }

    private static void objectsAreApart() {
        sentence("The state consists of the source (instructions and endings), R inputs, whether the "
                + "source is converted, and the record of the last run (or none).");
        for (State state : State.ALL) {
            int[] now = Look.now(state.make());
            int[] ahead = Look.ahead(state.make());
            IfConverter x = state.make();
            IfConverter y = state.make();
            useAnother();
            same("another object's calls changed something, " + state, Look.now(x), now);
            same("another object's calls changed something, " + state, Look.ahead(y), ahead);
        }
    }

    /** An object of the same size, with another text in all blocks. */
    private static void useAnother() {
        IfConverter z = new IfConverter(B, State.CELLS, R);
        for (int b = 0; b < B; b++) {
            z.emit(b, SET, 3, b);
            z.branch(b, 2, B, b + 1);
        }
        for (int r = 0; r < R; r++) {
            z.input(r, 1000 + r);
        }
        z.convert();
        z.run(RESTORED, 1);
        z.run(GUARDED, B);
    }

    // Promise 2.

    private static void emitAppends() {
        sentence("emit(b, op, d, x) appends the instruction (op, d, x) to block b.");
        for (int b = 0; b < 12; b++) {
            IfConverter x = new IfConverter(12, 4, 8);
            for (int op = SET; op <= EQUAL; op += 2) {
                due(x, Call.emit(b, op, 7 - op, op + 1), OK);
                due(x, Call.source(b, SIZE), op / 2 + 1);
            }
            for (int i = 0; i < 4; i++) {
                cellIs(x, b, i, 2 * i, 7 - 2 * i, 2 * i + 1);
            }
        }
    }

    private static void emitBad() {
        sentence("BAD if b is not in 0..B-1");
        for (int n : outside(0, B - 1)) {
            refused(Call.emit(n, SET, 0, 0), BAD);
            refused(Call.emit(n, ADD, 1, 2), BAD);
        }
        sentence("or op is not in 0..7");
        for (int n : outside(SET, EQUAL)) {
            refused(Call.emit(1, n, 0, 0), BAD);
        }
        sentence("or d is not in 0..R-1");
        for (int n : outside(0, R - 1)) {
            for (int op = SET; op <= EQUAL; op++) {
                refused(Call.emit(1, op, n, 0), BAD);
            }
        }
        sentence("or op is not SET and x is not in 0..R-1");
        for (int n : outside(0, R - 1)) {
            for (int op = COPY; op <= EQUAL; op++) {
                refused(Call.emit(1, op, 0, n), BAD);
            }
        }
        for (int op = COPY; op <= EQUAL; op++) {
            due(State.UNCONVERTED.make(), Call.emit(1, op, R - 1, 0), OK);
            due(State.UNCONVERTED.make(), Call.emit(1, op, 0, R - 1), OK);
        }
    }

    private static void emitAnyNumber() {
        sentence("With SET every int x is allowed.");
        for (int n : outside(0, R - 1)) {
            IfConverter x = State.CONVERTED.make();
            due(x, Call.emit(0, SET, 1, n), OK);
            cellIs(x, 0, 0, SET, 1, n);
            x.run(SOURCE, 1);
            due(x, Call.value(1, AFTER), n);
        }
        for (int n = 0; n < R; n++) {
            due(State.CONVERTED.make(), Call.emit(0, SET, 1, n), OK);
        }
    }

    private static void emitFull() {
        sentence("Otherwise FULL if block b already has C instructions.");
        for (int op = SET; op <= EQUAL; op++) {
            refused(Call.emit(State.FULL_BLOCK, op, 1, 2), FULL);
        }
        refused(Call.emit(State.FULL_BLOCK, SET, 1, LEAST), FULL);
        for (int cells = 1; cells <= 4; cells++) {
            IfConverter x = new IfConverter(12, cells, 2);
            for (int b = 0; b < 12; b++) {
                for (int i = 0; i < cells; i++) {
                    due(x, Call.emit(b, SET, 0, 100 * b + i), OK);
                }
                due(x, Call.emit(b, SET, 0, -1), FULL);
                due(x, Call.source(b, SIZE), cells);
            }
            for (int b = 0; b < 12; b++) {
                for (int i = 0; i < cells; i++) {
                    cellIs(x, b, i, SET, 0, 100 * b + i);
                }
            }
        }
    }

    private static void emitBadBeforeFull() {
        sentence("BAD thus comes before FULL.");
        for (int n : outside(SET, EQUAL)) {
            refused(Call.emit(State.FULL_BLOCK, n, 0, 0), BAD);
        }
        for (int n : outside(0, R - 1)) {
            refused(Call.emit(State.FULL_BLOCK, SET, n, 0), BAD);
            refused(Call.emit(State.FULL_BLOCK, ADD, n, 0), BAD);
            refused(Call.emit(State.FULL_BLOCK, ADD, 0, n), BAD);
        }
    }

    private static void emitIsAnEdit() {
        sentence("Otherwise the instruction becomes the last of block b; this is an accepted edit; OK.");
        for (State state : State.ALL) {
            for (int b = 0; b < B; b++) {
                if (b != State.FULL_BLOCK) {
                    IfConverter x = state.make();
                    int size = x.source(b, SIZE);
                    due(x, Call.emit(b, LESS, 3, 2), OK);
                    isUnconverted(x);
                    hasNoRecord(x, R);
                    due(x, Call.source(b, SIZE), size + 1);
                    cellIs(x, b, size, LESS, 3, 2);
                    cellIs(x, b, size + 1, NONE, NONE, NONE);
                }
            }
        }
    }

    private static void emitKeepsTheRest() {
        sentence("The earlier instructions of the block, its ending, all other blocks and the inputs "
                + "stay as they are.");
        for (State state : State.ALL) {
            IfConverter x = state.make();
            int[] others = Look.text(x, 2);
            x.emit(2, XOR, 0, 2);
            x.emit(2, SET, 1, -9);
            same("another block or an input changed", Look.text(x, 2), others);
            cellIs(x, 2, 0, COPY, 3, 1);
            cellIs(x, 2, 1, XOR, 0, 2);
            cellIs(x, 2, 2, SET, 1, -9);
            blockIs(x, 2, 1, 3, 4, 3);
        }
    }

    // Promise 3.

    private static void jumpReplacesTheEnding() {
        sentence("jump(b, t) makes block b end with a jump to t, in place of its ending.");
        for (int b = 0; b < 12; b++) {
            for (int t = b + 1; t <= 12; t++) {
                IfConverter x = ladder();
                due(x, Call.jump(b, t), OK);
                blockIs(x, b, NONE, t, t, 0);
                due(x, Call.jump(b, 12), OK);
                blockIs(x, b, NONE, 12, 12, 0);
            }
        }
        for (int form = SOURCE; form <= RESTORED; form++) {
            IfConverter x = State.UNCONVERTED.make();
            x.jump(0, 4);
            x.convert();
            due(x, Call.run(form, 1), 4);
        }
    }

    private static void jumpBad() {
        sentence("BAD if b is not in 0..B-1");
        for (int n : outside(0, B - 1)) {
            refused(Call.jump(n, B), BAD);
            refused(Call.jump(n, 1), BAD);
            refused(Call.jump(n, n + 1), BAD);
        }
        sentence("or t is not in b+1..B");
        for (int b = 0; b < B; b++) {
            for (int n : outside(b + 1, B)) {
                refused(Call.jump(b, n), BAD);
            }
        }
        refused(Call.jump(B - 1, 0), BAD);
        refused(Call.jump(3, 2), BAD);
    }

    private static void jumpIsAnEdit() {
        sentence("Otherwise the ending is replaced; this is an accepted edit, also if the ending was "
                + "already a jump to t; OK.");
        for (State state : State.ALL) {
            for (Call call : new Call[] {Call.jump(2, 5), Call.jump(1, 5), Call.jump(7, 8)}) {
                IfConverter x = state.make();
                due(x, call, OK);
                isUnconverted(x);
                hasNoRecord(x, R);
                x.convert();
                due(x, call, OK);
                isUnconverted(x);
            }
        }
    }

    private static void jumpKeepsTheRest() {
        sentence("The instructions of block b, all other blocks and the inputs stay as they are.");
        for (State state : State.ALL) {
            IfConverter x = state.make();
            int[] others = Look.text(x, 3);
            x.jump(3, 7);
            same("another block or an input changed", Look.text(x, 3), others);
            cellIs(x, 3, 0, SET, 2, 30);
            cellIs(x, 3, 1, ADD, 2, 1);
            cellIs(x, 3, 2, XOR, 0, 0);
            blockIs(x, 3, NONE, 7, 7, 3);
        }
    }

    // Promise 4.

    private static void branchReplacesTheEnding() {
        sentence("branch(b, r, t, f) makes block b end with a branch that tests register r, with "
                + "targets ON_TRUE = t and ON_FALSE = f, in place of its ending.");
        for (int b = 0; b < 12; b++) {
            IfConverter x = new IfConverter(12, 1, 8);
            for (int t = b + 1; t <= 12; t++) {
                for (int f = b + 1; f <= 12; f++) {
                    int r = (t + 3 * f) % 8;
                    due(x, Call.branch(b, r, t, f), OK);
                    blockIs(x, b, r, t, f, 0);
                }
            }
        }
        for (int form = SOURCE; form <= RESTORED; form++) {
            IfConverter x = State.UNCONVERTED.make();
            x.branch(0, 1, 3, 4);
            x.convert();
            due(x, Call.run(form, 1), 3);
            x.input(1, 0);
            due(x, Call.run(form, 1), 4);
        }
    }

    private static void branchBad() {
        sentence("BAD if b is not in 0..B-1");
        for (int n : outside(0, B - 1)) {
            refused(Call.branch(n, 0, B, B), BAD);
            refused(Call.branch(n, 0, 1, 2), BAD);
            refused(Call.branch(n, 0, n + 1, n + 1), BAD);
        }
        sentence("or r is not in 0..R-1");
        for (int n : outside(0, R - 1)) {
            refused(Call.branch(0, n, 1, 2), BAD);
            refused(Call.branch(7, n, 8, 8), BAD);
        }
        sentence("or t or f is not in b+1..B");
        for (int b = 0; b < B; b++) {
            for (int n : outside(b + 1, B)) {
                refused(Call.branch(b, 0, n, b + 1), BAD);
                refused(Call.branch(b, 0, B, n), BAD);
                refused(Call.branch(b, 0, n, n), BAD);
            }
        }
    }

    private static void branchIsAnEdit() {
        sentence("Otherwise the ending is replaced; this is an accepted edit, also if the ending was "
                + "already this branch; OK.");
        for (State state : State.ALL) {
            Call[] calls = {Call.branch(4, 3, 8, 5), Call.branch(2, 1, 3, 4), Call.branch(6, 3, 7, 8)};
            for (Call call : calls) {
                IfConverter x = state.make();
                due(x, call, OK);
                isUnconverted(x);
                hasNoRecord(x, R);
                x.convert();
                due(x, call, OK);
                isUnconverted(x);
            }
        }
    }

    private static void branchWithSameTargets() {
        sentence("t can equal f; the ending is a branch even so.");
        for (int b = 0; b < B; b++) {
            for (int t = b + 1; t <= B; t++) {
                IfConverter x = State.CONVERTED.make();
                int size = x.source(b, SIZE);
                due(x, Call.branch(b, 3, t, t), OK);
                blockIs(x, b, 3, t, t, size);
            }
        }
    }

    private static void branchKeepsTheRest() {
        sentence("The instructions of block b, all other blocks and the inputs stay as they are.");
        for (State state : State.ALL) {
            IfConverter x = state.make();
            int[] others = Look.text(x, 3);
            x.branch(3, 2, 8, 6);
            same("another block or an input changed", Look.text(x, 3), others);
            cellIs(x, 3, 0, SET, 2, 30);
            cellIs(x, 3, 1, ADD, 2, 1);
            cellIs(x, 3, 2, XOR, 0, 0);
            blockIs(x, 3, 2, 8, 6, 3);
        }
    }

    // Promise 5.

    private static void clearEmpties() {
        sentence("clear(b) makes block b empty, ending with a jump to b+1.");
        for (int b = 0; b < B; b++) {
            IfConverter x = State.CONVERTED.make();
            x.branch(b, 2, B, B);
            due(x, Call.clear(b), OK);
            blockIs(x, b, NONE, b + 1, b + 1, 0);
            for (int i = 0; i < State.CELLS; i++) {
                cellIs(x, b, i, NONE, NONE, NONE);
            }
            for (int i = 0; i < State.CELLS; i++) {
                due(x, Call.emit(b, MUL, i, 1), OK);
                cellIs(x, b, i, MUL, i, 1);
            }
            due(x, Call.emit(b, MUL, 0, 1), FULL);
        }
        for (int form = SOURCE; form <= RESTORED; form++) {
            IfConverter x = State.UNCONVERTED.make();
            x.clear(3);
            x.convert();
            due(x, Call.run(form, 4), 4);
            due(x, Call.value(2, AFTER), -2);
        }
    }

    private static void clearBad() {
        sentence("BAD if b is not in 0..B-1.");
        for (int n : outside(0, B - 1)) {
            refused(Call.clear(n), BAD);
        }
    }

    private static void clearIsAnEdit() {
        sentence("Otherwise the block is emptied and its ending replaced; this is an accepted edit, "
                + "also if the block was already so; OK.");
        for (State state : State.ALL) {
            for (Call call : new Call[] {Call.clear(2), Call.clear(State.EMPTY_BLOCK)}) {
                IfConverter x = state.make();
                due(x, call, OK);
                isUnconverted(x);
                hasNoRecord(x, R);
                x.convert();
                due(x, call, OK);
                isUnconverted(x);
            }
        }
    }

    private static void clearKeepsTheRest() {
        sentence("All other blocks and the inputs stay as they are.");
        for (State state : State.ALL) {
            for (int b = 0; b < B; b++) {
                IfConverter x = state.make();
                int[] others = Look.text(x, b);
                x.clear(b);
                same("another block or an input changed", Look.text(x, b), others);
            }
        }
    }

    // Promise 6.

    private static void inputAnyNumber() {
        sentence("Every int v is allowed.");
        for (int n : outside(0, 0)) {
            for (int r = 0; r < R; r++) {
                IfConverter x = State.CONVERTED.make();
                due(x, Call.input(r, n), OK);
                due(x, Call.value(r, BEFORE), n);
                x.run(SOURCE, 0);
                due(x, Call.value(r, AFTER), n);
            }
        }
    }

    private static void inputBad() {
        sentence("BAD if r is not in 0..R-1.");
        for (int n : outside(0, R - 1)) {
            refused(Call.input(n, 1), BAD);
            refused(Call.input(n, LEAST), BAD);
        }
    }

    private static void inputIsSet() {
        sentence("Otherwise the input is set; OK.");
        for (State state : State.ALL) {
            IfConverter x = state.make();
            for (int r = 0; r < R; r++) {
                due(x, Call.input(r, -50 - r), OK);
                due(x, Call.input(r, 50 + r), OK);
            }
            for (int r = 0; r < R; r++) {
                due(x, Call.value(r, BEFORE), 50 + r);
            }
            x.run(SOURCE, 0);
            for (int r = 0; r < R; r++) {
                due(x, Call.value(r, AFTER), 50 + r);
            }
        }
    }

    private static void inputIsNoEdit() {
        sentence("This is not an edit: the source, the conversion and the record do not change, nor do "
                + "the other inputs.");
        for (State state : State.ALL) {
            for (int r = 0; r < R; r++) {
                IfConverter x = state.make();
                int was = x.value(r, BEFORE);
                int[] beside = Look.beside(x);
                due(x, Call.input(r, was + 1), OK);
                same("the conversion or the record changed", Look.beside(x), beside);
                changesNothing(state, Call.input(r, was + 1), Call.input(r, was));
            }
        }
    }
}
