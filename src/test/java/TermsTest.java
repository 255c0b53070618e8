/** The sentences of the document's "Terms" that name an edge, a test for each. */
public final class TermsTest extends Checks {
    public static void main(String[] args) {
        section("Blocks");
        theBlocks();
        theOnlyEntry();
        theNumberB();
        instructionsOfABlock();
        targetsOfABlock();
        endings();
        section("Registers");
        registers();
        wrapAround();
        section("Instructions");
        operands();
        effects();
        sameRegister();
        section("Paths");
        endOfAPath();
        registerValues();
        pathFromB();
        completePaths();
        reachable();
        section("Guards");
        sameGuard();
        numbering();
        sharedNumbers();
        nextNumbers();
        guardOfBlock0();
        unreachableBlocks();
        section("Accepted edit");
        acceptedEdit();
        sameText();
        inputsKept();
        section("Refusals");
        refusals();
        finish();
    }

    // Blocks.

    private static void theBlocks() {
        sentence("The region has B blocks, numbered 0..B-1; B is fixed by the constructor.");
        for (int blocks = 2; blocks <= 12; blocks++) {
            IfConverter x = new IfConverter(blocks, 1, 2);
            for (int b = 0; b < blocks; b++) {
                due(x, Call.emit(b, SET, 0, b), OK);
                due(x, Call.branch(b, 0, b + 1, b + 1), OK);
                due(x, Call.clear(b), OK);
                due(x, Call.jump(b, b + 1), OK);
                due(x, Call.source(b, SIZE), 0);
            }
            due(x, Call.convert(), 1);
            x.run(GUARDED, blocks);
            for (int b = 0; b < blocks; b++) {
                due(x, Call.guardOf(b), 0);
                due(x, Call.ran(b), 1);
                due(x, Call.restored(b, SIZE), 0);
                due(x, Call.depends(b, b, 0), 0);
            }
            for (int n : outside(0, blocks - 1)) {
                due(x, Call.ran(n), NONE);
                noBlock(x, n);
            }
        }
    }

    private static void theOnlyEntry() {
        sentence("Block 0 is the only entry.");
        for (int form = SOURCE; form <= RESTORED; form++) {
            IfConverter x = new IfConverter(4, 1, 2);
            for (int b = 0; b < 4; b++) {
                x.emit(b, SET, 0, 10 + b);
            }
            x.jump(0, 4);
            x.convert();
            due(x, Call.run(form, 4), 4);
            due(x, Call.value(0, AFTER), 10);
            due(x, Call.ran(0), 1);
            for (int b = 1; b < 4; b++) {
                due(x, Call.ran(b), 0);
                due(x, Call.guardOf(b), NONE);
            }
        }
    }

    private static void theNumberB() {
        sentence("The number B is no block; it means that the region is left.");
        for (int b = 2; b <= 12; b++) {
            for (int form = SOURCE; form <= RESTORED; form++) {
                IfConverter x = new IfConverter(b, 1, 2);
                x.emit(b - 1, SET, 0, 1);
                due(x, Call.jump(0, b), OK);
                x.convert();
                due(x, Call.run(form, b), b);
                due(x, Call.value(0, AFTER), 0);
                due(x, Call.ran(b), NONE);
                noBlock(x, b);
            }
        }
    }

    private static void noBlock(IfConverter x, int b) {
        due(x, Call.guardOf(b), NONE);
        due(x, Call.depends(b, 0, 1), NONE);
        due(x, Call.depends(0, b, 1), NONE);
        due(x, Call.restored(b, SIZE), NONE);
        due(x, Call.source(b, SIZE), NONE);
        due(x, Call.cell(b, 0, OP), NONE);
        due(x, Call.emit(b, SET, 0, 0), BAD);
        due(x, Call.jump(b, b + 1), BAD);
        due(x, Call.branch(b, 0, b + 1, b + 1), BAD);
        due(x, Call.clear(b), BAD);
    }

    private static void instructionsOfABlock() {
        sentence("A block has a list of 0..C instructions and then an ending with two targets, "
                + "ON_TRUE and ON_FALSE.");
        for (int cells = 1; cells <= 4; cells++) {
            for (int form = SOURCE; form <= RESTORED; form++) {
                IfConverter x = new IfConverter(3, cells, 2);
                x.input(1, 1);
                x.branch(0, 1, 1, 3);
                for (int i = 0; i < cells; i++) {
                    due(x, Call.emit(1, ADD, 0, 1), OK);
                }
                due(x, Call.emit(1, ADD, 0, 1), FULL);
                x.branch(1, 0, 3, 2);
                blockIs(x, 0, 1, 1, 3, 0);
                blockIs(x, 1, 0, 3, 2, cells);
                x.convert();
                due(x, Call.run(form, 1), 1);
                due(x, Call.value(0, AFTER), 0);
                due(x, Call.run(form, 2), 3);
                due(x, Call.value(0, AFTER), cells);
            }
        }
    }

    private static void targetsOfABlock() {
        sentence("Every target of block b is a number in b+1..B.");
        for (int blocks = 2; blocks <= 12; blocks++) {
            IfConverter x = new IfConverter(blocks, 1, 2);
            for (int b = 0; b < blocks; b++) {
                for (int t = b + 1; t <= blocks; t++) {
                    due(x, Call.jump(b, t), OK);
                    due(x, Call.branch(b, 0, t, b + 1), OK);
                    due(x, Call.branch(b, 0, blocks, t), OK);
                }
                for (int t : outside(b + 1, blocks)) {
                    due(x, Call.jump(b, t), BAD);
                    due(x, Call.branch(b, 0, t, b + 1), BAD);
                    due(x, Call.branch(b, 0, blocks, t), BAD);
                }
                blockIs(x, b, 0, blocks, blocks, 0);
            }
        }
    }

    private static void endings() {
        sentence("An ending is either a jump (no test; both targets are the same number) or a branch "
                + "(it tests one register; its two targets can be different or the same).");
        IfConverter x = new IfConverter(5, 1, 3);
        x.jump(0, 4);
        blockIs(x, 0, NONE, 4, 4, 0);
        x.branch(0, 2, 4, 4);
        blockIs(x, 0, 2, 4, 4, 0);
        x.branch(0, 1, 5, 3);
        blockIs(x, 0, 1, 5, 3, 0);
        x.jump(0, 2);
        blockIs(x, 0, NONE, 2, 2, 0);
    }

    // Registers.

    private static void registers() {
        sentence("There are R registers, 0..R-1, each an int.");
        for (int regs = 2; regs <= 8; regs++) {
            IfConverter x = new IfConverter(2, 1, regs);
            for (int r = 0; r < regs; r++) {
                due(x, Call.input(r, LEAST + r), OK);
                due(x, Call.emit(0, COPY, r, regs - 1 - r), OK);
                due(x, Call.branch(0, r, 1, 2), OK);
                x.run(SOURCE, 1);
                due(x, Call.value(r, AFTER), x.value(regs - 1 - r, BEFORE));
                x.clear(0);
            }
            for (int r = 0; r < regs; r++) {
                due(x, Call.value(r, BEFORE), LEAST + r);
            }
            due(x, Call.input(regs, 1), BAD);
            due(x, Call.emit(0, COPY, regs, 0), BAD);
            due(x, Call.emit(0, COPY, 0, regs), BAD);
            due(x, Call.branch(0, regs, 1, 2), BAD);
            due(x, Call.value(regs, BEFORE), 0);
        }
    }

    private static void wrapAround() {
        sentence("Arithmetic wraps as in Java.");
        effect(ADD, GREATEST, 1, LEAST);
        effect(ADD, LEAST, -1, GREATEST);
        effect(ADD, LEAST, LEAST, 0);
        effect(ADD, GREATEST, GREATEST, -2);
        effect(SUB, LEAST, 1, GREATEST);
        effect(SUB, GREATEST, -1, LEAST);
        effect(SUB, 0, LEAST, LEAST);
        effect(SUB, LEAST, GREATEST, 1);
        effect(MUL, LEAST, -1, LEAST);
        effect(MUL, 65536, 65536, 0);
        effect(MUL, 46341, 46341, -2147479015);
        effect(MUL, GREATEST, GREATEST, 1);
        effect(MUL, 65537, -65537, -131073);
    }

    /** The instruction in every form, last in its block, on registers between others. */
    private static void effect(int op, int d, int x, int want) {
        for (int form = SOURCE; form <= RESTORED; form++) {
            IfConverter o = new IfConverter(2, 2, 4);
            o.input(0, 111);
            o.input(1, d);
            o.input(2, x);
            o.input(3, 333);
            o.emit(1, COPY, 3, 0);
            o.emit(1, op, 1, op == SET ? x : 2);
            o.convert();
            o.run(form, 2);
            due("op " + op + " on " + d + " and " + x + ", form " + form, o.value(1, AFTER), want);
            due("register 0 beside it", o.value(0, AFTER), 111);
            due("the other operand", o.value(2, AFTER), x);
            due("register 3 beside it", o.value(3, AFTER), 111);
        }
    }

    // Instructions.

    private static void operands() {
        sentence("d is a register; x is a register unless op is SET, in which case x is a plain "
                + "number (any int).");
        for (int n : outside(0, State.REGS - 1)) {
            for (int op = COPY; op <= EQUAL; op++) {
                refused(Call.emit(1, op, 0, n), BAD);
            }
            refused(Call.emit(1, SET, n, 0), BAD);
            IfConverter x = State.UNCONVERTED.make();
            due(x, Call.emit(1, SET, 0, n), OK);
            cellIs(x, 1, 1, SET, 0, n);
        }
        IfConverter x = new IfConverter(2, 1, 4);
        for (int r = 0; r < 4; r++) {
            x.input(r, 100 + r);
        }
        for (int n = 0; n < 4; n++) {
            x.clear(0);
            x.emit(0, SET, 3, n);
            x.run(SOURCE, 1);
            due("SET with the number " + n, x.value(3, AFTER), n);
        }
    }

    private static void effects() {
        sentence("SET: d = the number x");
        allEffects(SET, new int[][] {{5, 9, 9}, {5, 0, 0}, {1, LEAST, LEAST}, {-1, GREATEST, GREATEST}});
        sentence("COPY: d = register x");
        allEffects(COPY, new int[][] {{5, 9, 9}, {5, 0, 0}, {1, LEAST, LEAST}, {-1, GREATEST, GREATEST}});
        sentence("ADD: d = d + register x");
        allEffects(ADD, new int[][] {{2, 3, 5}, {2, -3, -1}, {0, 0, 0}, {LEAST, GREATEST, -1}});
        sentence("SUB: d = d - register x");
        allEffects(SUB, new int[][] {{2, 3, -1}, {3, 2, 1}, {2, -3, 5}, {0, GREATEST, -GREATEST}});
        sentence("MUL: d = d * register x");
        allEffects(MUL, new int[][] {{4, 3, 12}, {-4, 3, -12}, {-4, -3, 12}, {LEAST, 0, 0}});
        sentence("XOR: d = d ^ register x");
        allEffects(XOR, new int[][] {{6, 3, 5}, {-1, 1, -2}, {LEAST, GREATEST, -1}, {9, 0, 9}});
        sentence("LESS: d = 1 if d < register x, else 0 (signed comparison)");
        allEffects(LESS, new int[][] {{1, 2, 1}, {2, 2, 0}, {3, 2, 0}, {-1, 0, 1}, {0, -1, 0},
            {LEAST, GREATEST, 1}, {GREATEST, LEAST, 0}, {LEAST, 1, 1}, {GREATEST, -1, 0}, {0, LEAST, 0},
            {LEAST, LEAST, 0}, {GREATEST - 1, GREATEST, 1}});
        sentence("EQUAL: d = 1 if d == register x, else 0");
        allEffects(EQUAL, new int[][] {{2, 2, 1}, {2, 3, 0}, {3, 2, 0}, {0, 0, 1}, {-1, 1, 0},
            {LEAST, LEAST, 1}, {LEAST, GREATEST, 0}, {LEAST, 0, 0}, {65536, 0, 0}, {1, 257, 0}});
    }

    private static void allEffects(int op, int[][] rows) {
        for (int[] row : rows) {
            effect(op, row[0], row[1], row[2]);
        }
    }

    private static void sameRegister() {
        sentence("Both operands are read before d is written; d and x can be the same register.");
        int[][] rows = {
            {7, 1, 7, 14, 0, 49, 0, 0, 1},
            {-3, 1, -3, -6, 0, 9, 0, 0, 1},
            {LEAST, 1, LEAST, 0, 0, 0, 0, 0, 1},
            {GREATEST, 1, GREATEST, -2, 0, 1, 0, 0, 1}};
        for (int form = SOURCE; form <= RESTORED; form++) {
            for (int[] row : rows) {
                for (int op = SET; op <= EQUAL; op++) {
                    IfConverter x = new IfConverter(2, 1, 2);
                    x.input(1, row[0]);
                    due(x, Call.emit(0, op, 1, 1), OK);
                    x.convert();
                    x.run(form, 2);
                    due("op " + op + " on " + row[0] + " twice", x.value(1, AFTER), row[1 + op]);
                }
            }
        }
    }

    // Paths.

    private static void endOfAPath() {
        sentence("A path from block x is a list of blocks that starts with x, in which each next block "
                + "is one of the two targets of the block before it, and whose last block has B as one "
                + "of its targets.");
        // Block 1 can be the last one of a path or go on to 2.
        IfConverter x = new IfConverter(3, 1, 2);
        x.branch(1, 0, 2, 3);
        due(x, Call.convert(), 2);
        guardsAre(x, 0, 0, 1);
        due(x, Call.depends(2, 1, 1), 1);
        due(x, Call.depends(2, 1, 0), 0);
        x.branch(1, 0, 3, 2);
        x.convert();
        guardsAre(x, 0, 0, 1);
        due(x, Call.depends(2, 1, 0), 1);
        due(x, Call.depends(2, 1, 1), 0);
    }

    private static void registerValues() {
        sentence("Register values play no part in this.");
        // Block 0 never goes to 1 in a run, and 1 and 4 would always run together.
        IfConverter x = new IfConverter(6, 1, 2);
        x.emit(0, SET, 0, 0);
        x.branch(0, 0, 1, 2);
        x.jump(1, 3);
        x.branch(3, 0, 4, 5);
        due(x, Call.convert(), 4);
        guardsAre(x, 0, 1, 2, 0, 3, 0);
        due(x, Call.depends(1, 0, 1), 1);
        due(x, Call.restored(0, ON_TRUE), 1);
        x.run(GUARDED, 1);
        due(x, Call.holds(3), 0);
        x.input(0, 1);
        due(x, Call.guardOf(1), 1);
    }

    private static void pathFromB() {
        sentence("The only path from B is the empty list.");
        IfConverter x = new IfConverter(3, 1, 2);
        x.branch(0, 0, 1, 3);
        due(x, Call.convert(), 2);
        guardsAre(x, 0, 1, 1);
        for (int b = 0; b < 3; b++) {
            due(x, Call.depends(b, 0, 0), 0);
            due(x, Call.depends(b, 2, 0), 0);
            due(x, Call.depends(b, 2, 1), 0);
        }
        x.run(GUARDED, 1);
        due(x, Call.holds(0), 1);
        due(x, Call.holds(1), 0);
    }

    private static void completePaths() {
        sentence("A complete path is a path from 0.");
        // The paths from 1, which nothing leads to, say nothing of the guards of 2 and 3.
        IfConverter x = new IfConverter(4, 1, 2);
        x.jump(0, 2);
        x.branch(1, 0, 3, 4);
        due(x, Call.convert(), 1);
        guardsAre(x, 0, NONE, 0, 0);
        x.branch(1, 0, 2, 3);
        due(x, Call.convert(), 1);
        guardsAre(x, 0, NONE, 0, 0);
    }

    private static void reachable() {
        sentence("A block is reachable if some complete path contains it.");
        // Only 1, which nothing leads to, leads to 2; 3 is reached by an ON_FALSE edge alone.
        IfConverter x = new IfConverter(5, 1, 2);
        x.branch(0, 0, 4, 3);
        x.branch(1, 0, 2, 3);
        x.convert();
        guardsAre(x, 0, NONE, NONE, 1, 0);
        x.branch(0, 0, 3, 4);
        x.convert();
        guardsAre(x, 0, NONE, NONE, 1, 0);
        x.branch(0, 0, 1, 4);
        x.convert();
        guardsAre(x, 0, 1, 2, 1, 0);
    }

    // Guards.

    private static void sameGuard() {
        sentence("Two reachable blocks have the same guard exactly when every complete path that "
                + "contains either of them contains the other too.");
        IfConverter chain = new IfConverter(12, 1, 2);
        due(chain, Call.convert(), 1);
        guardsAre(chain, 0, 0, 0, 0, 0, 0, 0, 0, 0, 0, 0, 0);
        // Every path with 1 has 4, but not the other way round; every path with 3 has 2, likewise.
        IfConverter halves = new IfConverter(5, 1, 2);
        halves.branch(0, 0, 1, 2);
        halves.jump(1, 4);
        halves.branch(2, 0, 3, 5);
        due(halves, Call.convert(), 5);
        guardsAre(halves, 0, 1, 2, 3, 4);
        // A way round the inner fork, so that 1, 4 and 6 run together or not at all.
        IfConverter nested = new IfConverter(8, 1, 2);
        nested.branch(0, 0, 1, 7);
        nested.branch(1, 0, 2, 3);
        nested.jump(2, 4);
        nested.branch(4, 0, 5, 6);
        due(nested, Call.convert(), 5);
        guardsAre(nested, 0, 1, 2, 3, 1, 4, 1, 0);
    }

    private static void numbering() {
        sentence("the reachable blocks are taken by rising number");
        IfConverter x = ladder();
        due(x, Call.convert(), 12);
        guardsAre(x, 0, 1, 2, 3, 4, 5, 6, 7, 8, 9, 10, 11);
        // The ON_FALSE target is the smaller block here, and the one that an edge is met to first.
        IfConverter y = new IfConverter(6, 1, 2);
        y.branch(0, 0, 4, 1);
        y.branch(1, 0, 3, 2);
        y.jump(2, 5);
        y.jump(3, 5);
        y.convert();
        guardsAre(y, 0, 1, 2, 3, 4, 0);
    }

    private static void sharedNumbers() {
        sentence("a block with the same guard as a smaller reachable block has that block's guard "
                + "number");
        IfConverter x = new IfConverter(9, 1, 2);
        x.branch(0, 0, 1, 2);
        x.jump(1, 3);
        x.jump(2, 4);
        x.jump(3, 5);
        x.jump(4, 6);
        x.jump(5, 7);
        x.jump(6, 8);
        x.jump(7, 9);
        due(x, Call.convert(), 3);
        guardsAre(x, 0, 1, 2, 1, 2, 1, 2, 1, 2);
    }

    private static void nextNumbers() {
        sentence("any other block gets the smallest number not yet given");
        // 1 is unreachable and 3 has an old guard, so neither takes a number from those after it.
        IfConverter x = new IfConverter(7, 1, 2);
        x.jump(0, 2);
        x.branch(2, 0, 3, 3);
        x.branch(3, 0, 4, 5);
        x.jump(4, 6);
        due(x, Call.convert(), 3);
        guardsAre(x, 0, NONE, 0, 0, 1, 2, 0);
    }

    private static void guardOfBlock0() {
        sentence("So block 0 has guard 0.");
        for (int blocks = 2; blocks <= 12; blocks++) {
            IfConverter x = new IfConverter(blocks, 1, 2);
            for (int t = 1; t <= blocks; t++) {
                for (int f = 1; f <= blocks; f++) {
                    x.branch(0, 0, t, f);
                    x.convert();
                    due(x, Call.guardOf(0), 0);
                }
            }
        }
    }

    private static void unreachableBlocks() {
        sentence("Unreachable blocks have no guard.");
        for (int blocks = 2; blocks <= 12; blocks++) {
            for (int t = 1; t <= blocks; t++) {
                IfConverter x = new IfConverter(blocks, 1, 2);
                x.jump(0, t);
                due(x, Call.convert(), 1);
                for (int b = 1; b < t && b < blocks; b++) {
                    due(x, Call.guardOf(b), NONE);
                }
                for (int b = t; b < blocks; b++) {
                    due(x, Call.guardOf(b), 0);
                }
            }
        }
    }

    // Accepted edit.

    private static final Call[] EDITS = {Call.emit(7, SET, 0, 1), Call.emit(0, ADD, 3, 3),
        Call.jump(1, 6), Call.jump(7, 8), Call.branch(4, 0, 5, 8), Call.branch(2, 3, 4, 3),
        Call.clear(3), Call.clear(6)};

    private static void acceptedEdit() {
        sentence("A call of emit, jump, branch or clear that answers OK is an accepted edit. It makes "
                + "the source unconverted and drops the record");
        for (State state : State.ALL) {
            for (Call edit : EDITS) {
                IfConverter x = state.make();
                due(x, edit, OK);
                isUnconverted(x);
                hasNoRecord(x, State.REGS);
            }
        }
    }

    private static void sameText() {
        sentence("even if it leaves the text of the source as it was");
        Call[] edits = {Call.jump(1, 5), Call.jump(4, 5), Call.jump(7, 8), Call.branch(0, 0, 1, 2),
            Call.branch(6, 3, 7, 8), Call.clear(7)};
        for (State state : State.ALL) {
            for (Call edit : edits) {
                IfConverter x = state.make();
                int[] text = Look.text(x, NONE);
                due(x, edit, OK);
                isUnconverted(x);
                hasNoRecord(x, State.REGS);
                same(edit + " changed the text", Look.text(x, NONE), text);
            }
        }
    }

    private static void inputsKept() {
        sentence("It does not change the inputs.");
        for (State state : State.ALL) {
            for (Call edit : EDITS) {
                IfConverter x = state.make();
                x.input(0, LEAST);
                due(x, edit, OK);
                due(x, Call.value(0, BEFORE), LEAST);
                due(x, Call.value(1, BEFORE), 5);
                due(x, Call.value(2, BEFORE), -2);
                due(x, Call.value(3, BEFORE), 77);
            }
        }
    }

    // Refusals. Here many refused calls follow one another; the promises' own tests make them singly.

    private static void refusals() {
        sentence("A call that answers BAD, FULL, UNCONVERTED or NONE as its refusal changes nothing.");
        Call[] bad = {Call.emit(8, SET, 0, 1), Call.emit(1, 8, 0, 1), Call.emit(1, SET, 4, 1),
            Call.emit(1, COPY, 0, 4), Call.jump(-1, 1), Call.jump(2, 2), Call.jump(2, 9),
            Call.branch(8, 0, 9, 9), Call.branch(2, 4, 3, 3), Call.branch(2, 0, 2, 3),
            Call.branch(2, 0, 3, 9), Call.clear(8), Call.clear(-1), Call.input(4, 1), Call.input(-1, 1),
            Call.run(3, 0), Call.run(-1, 0), Call.run(SOURCE, -1), Call.run(SOURCE, 9)};
        Call[] none = {Call.ran(8), Call.holds(5), Call.guardOf(6), Call.guardOf(8),
            Call.depends(6, 0, 1), Call.depends(1, 0, 2), Call.restored(7, SIZE), Call.restored(0, 4),
            Call.source(8, SIZE), Call.source(0, 4), Call.cell(0, 0, OP), Call.cell(3, 3, OP)};
        Call[] full = {Call.emit(State.FULL_BLOCK, ADD, 0, 1), Call.emit(State.FULL_BLOCK, SET, 0, 9)};
        for (State state : State.ALL) {
            refusedInARow(state, bad, BAD);
            refusedInARow(state, none, NONE);
            refusedInARow(state, full, FULL);
        }
        Call[] runs = {Call.run(GUARDED, 0), Call.run(GUARDED, 8), Call.run(RESTORED, 8)};
        Call[] questions = {Call.guards(), Call.guardOf(0), Call.depends(1, 0, 1), Call.restored(0, SIZE)};
        for (State state : State.ALL_UNCONVERTED) {
            refusedInARow(state, runs, UNCONVERTED);
            refusedInARow(state, questions, NONE);
        }
    }

    private static void refusedInARow(State state, Call[] calls, int want) {
        IfConverter x = state.make();
        for (Call call : calls) {
            due(x, call, want);
        }
        changesNothing(state, calls);
    }
}
