/** Promises 12 to 17, sentence by sentence: what is asked of the converted code and of the source. */
public final class AnswersTest extends Checks {
    private static final int B = State.BLOCKS;
    private static final int[] BLOCKS_AND_OTHERS = {LEAST, -1, 0, 1, 2, 3, 4, 5, 6, 7, 8, 12, GREATEST};

    public static void main(String[] args) {
        section("Promise 12");
        guardsNone();
        guardsChangesNothing();
        section("Promise 13");
        guardOfNone();
        guardOfBlocks();
        guardOfChangesNothing();
        section("Promise 14");
        dependsWays();
        dependsNone();
        dependsOnEdges();
        dependsZero();
        dependsChangesNothing();
        section("Promise 15");
        restoredNone();
        restoredTargets();
        restoredSize();
        restoredTest();
        restoredChangesNothing();
        section("Promise 16");
        sourceAnyTime();
        sourceNone();
        sourceTargets();
        sourceSize();
        sourceTest();
        sourceChangesNothing();
        section("Promise 17");
        cellAnyTime();
        cellNone();
        cellParts();
        cellOfSet();
        cellChangesNothing();
        finish();
    }

    // Promise 12.

    private static void guardsNone() {
        sentence("guards() answers NONE if the source is unconverted, otherwise the number of different "
                + "guards.");
        refused(Call.guards(), NONE, State.ALL_UNCONVERTED);
        for (State state : State.ALL_CONVERTED) {
            IfConverter x = state.make();
            due(x, Call.guards(), State.GUARDS);
            x.jump(2, 2);
            due(x, Call.guards(), State.GUARDS);
            x.jump(7, 8);
            due(x, Call.guards(), NONE);
            x.jump(0, 8);
            due(x, Call.guards(), NONE);
            x.convert();
            due(x, Call.guards(), 1);
        }
        IfConverter most = ladder();
        most.convert();
        due(most, Call.guards(), 12);
    }

    private static void guardsChangesNothing() {
        sentence("The call changes nothing; in particular it does not convert.");
        changesNothing(Call.guards());
        IfConverter x = State.UNCONVERTED.make();
        x.guards();
        isUnconverted(x);
    }

    // Promise 13.

    private static void guardOfNone() {
        sentence("guardOf(b) answers NONE if the source is unconverted");
        for (int b = 0; b < B; b++) {
            refused(Call.guardOf(b), NONE, State.ALL_UNCONVERTED);
        }
        IfConverter x = State.CONVERTED.make();
        x.clear(7);
        due(x, Call.guardOf(0), NONE);
        sentence("or b is not in 0..B-1");
        for (int n : outside(0, B - 1)) {
            refused(Call.guardOf(n), NONE);
        }
        IfConverter small = new IfConverter(2, 1, 2);
        small.convert();
        for (int n : outside(0, 1)) {
            due(small, Call.guardOf(n), NONE);
        }
        sentence("or b is unreachable");
        refused(Call.guardOf(6), NONE);
        refused(Call.guardOf(7), NONE);
    }

    private static void guardOfBlocks() {
        sentence("Otherwise it answers the guard number of block b.");
        for (State state : State.ALL_CONVERTED) {
            guardsAre(state.make(), 0, 1, 2, 3, 4, 0, NONE, NONE);
        }
        IfConverter x = State.CONVERTED.make();
        x.branch(5, 0, 7, 8);
        x.jump(0, 2);
        x.convert();
        guardsAre(x, 0, NONE, 0, 1, 2, 0, NONE, 3);
    }

    private static void guardOfChangesNothing() {
        sentence("The call changes nothing.");
        for (int b : BLOCKS_AND_OTHERS) {
            changesNothing(Call.guardOf(b));
        }
    }

    // Promise 14.

    private static void dependsWays() {
        sentence("Way 1 is a's ON_TRUE edge; way 0 is its ON_FALSE edge.");
        IfConverter x = State.CONVERTED.make();
        due(x, Call.depends(1, 0, 1), 1);
        due(x, Call.depends(1, 0, 0), 0);
        due(x, Call.depends(2, 0, 0), 1);
        due(x, Call.depends(2, 0, 1), 0);
        x.branch(0, 0, 2, 1);
        x.convert();
        due(x, Call.depends(1, 0, 0), 1);
        due(x, Call.depends(1, 0, 1), 0);
    }

    private static void dependsNone() {
        sentence("NONE if the source is unconverted");
        for (int b = 0; b < B; b++) {
            refused(Call.depends(b, 0, 1), NONE, State.ALL_UNCONVERTED);
            refused(Call.depends(4, b, 0), NONE, State.ALL_UNCONVERTED);
        }
        sentence("or b or a is not in 0..B-1");
        for (int n : outside(0, B - 1)) {
            refused(Call.depends(n, 0, 1), NONE);
            refused(Call.depends(1, n, 1), NONE);
            refused(Call.depends(n, n, 0), NONE);
        }
        sentence("or way is not in 0..1");
        for (int n : outside(0, 1)) {
            refused(Call.depends(1, 0, n), NONE);
            refused(Call.depends(2, 0, n), NONE);
            refused(Call.depends(5, 5, n), NONE);
        }
        sentence("or b or a is unreachable");
        for (int b = 0; b < B; b++) {
            for (int way = 0; way <= 1; way++) {
                refused(Call.depends(6, b, way), NONE);
                refused(Call.depends(b, 6, way), NONE);
                refused(Call.depends(7, b, way), NONE);
                refused(Call.depends(b, 7, way), NONE);
            }
        }
    }

    private static void dependsOnEdges() {
        sentence("Otherwise 1 if every path from that edge's target contains b and some path from a does "
                + "not contain b; else 0.");
        for (State state : State.ALL_CONVERTED) {
            dependsAre(state.make(), 6, new int[][] {{1, 0, 1}, {2, 0, 0}, {3, 2, 1}, {4, 2, 0}});
        }
        int[][] rungs = new int[11][];
        for (int b = 1; b < 12; b++) {
            rungs[b - 1] = new int[] {b, b - 1, 1};
        }
        IfConverter most = ladder();
        most.convert();
        dependsAre(most, 12, rungs);
        // 4 lies on every path from 1, not only on the edge to it, and on one of the two from 2.
        IfConverter x = new IfConverter(6, 1, 2);
        x.branch(0, 0, 1, 2);
        x.branch(1, 0, 3, 4);
        x.branch(2, 0, 4, 5);
        x.convert();
        dependsAre(x, 6, new int[][] {{1, 0, 1}, {4, 0, 1}, {2, 0, 0}, {3, 1, 1}, {4, 2, 1}});
        // A block depends on an edge that does not lead to it but to a block that it follows.
        IfConverter y = new IfConverter(5, 1, 2);
        y.branch(0, 0, 5, 1);
        y.branch(2, 0, 4, 3);
        y.convert();
        dependsAre(y, 5, new int[][] {{1, 0, 0}, {2, 0, 0}, {4, 0, 0}, {3, 2, 0}});
    }

    /** All answers for the first blocks: 1 for the triples told, else 0. */
    private static void dependsAre(IfConverter x, int blocks, int[][] ones) {
        for (int b = 0; b < blocks; b++) {
            for (int a = 0; a < blocks; a++) {
                for (int way = 0; way <= 1; way++) {
                    int want = 0;
                    for (int[] one : ones) {
                        want = one[0] == b && one[1] == a && one[2] == way ? 1 : want;
                    }
                    due(x, Call.depends(b, a, way), want);
                }
            }
        }
    }

    private static void dependsZero() {
        sentence("So the answer is 0 if b is a, if the edge's target is B, or if both targets of a are "
                + "the same.");
        IfConverter x = ladder();
        x.convert();
        for (int b = 0; b < 12; b++) {
            due(x, Call.depends(b, b, 0), 0);
            due(x, Call.depends(b, b, 1), 0);
            for (int a = 0; a < 12; a++) {
                due(x, Call.depends(b, a, 0), 0);
                due(x, Call.depends(b, 11, 1), 0);
            }
        }
        IfConverter y = new IfConverter(12, 1, 2);
        for (int a = 0; a < 12; a++) {
            y.branch(a, 0, a + 1, a + 1);
        }
        y.convert();
        for (int b = 0; b < 12; b++) {
            for (int a = 0; a < 12; a++) {
                due(y, Call.depends(b, a, 0), 0);
                due(y, Call.depends(b, a, 1), 0);
            }
        }
    }

    private static void dependsChangesNothing() {
        sentence("The call changes nothing.");
        for (int b : BLOCKS_AND_OTHERS) {
            for (int a : BLOCKS_AND_OTHERS) {
                changesNothing(Call.depends(b, a, 0));
                changesNothing(Call.depends(b, a, 1));
            }
            changesNothing(Call.depends(b, b, 2));
        }
    }

    // Promise 15.

    private static void restoredNone() {
        sentence("NONE if the source is unconverted");
        for (int b = 0; b < B; b++) {
            for (int part = TEST; part <= SIZE; part++) {
                refused(Call.restored(b, part), NONE, State.ALL_UNCONVERTED);
            }
        }
        IfConverter x = State.CONVERTED.make();
        x.jump(7, 8);
        due(x, Call.restored(0, ON_TRUE), NONE);
        sentence("or b is not in 0..B-1");
        for (int n : outside(0, B - 1)) {
            for (int part = TEST; part <= SIZE; part++) {
                refused(Call.restored(n, part), NONE);
            }
        }
        sentence("or part is not in 0..3");
        for (int n : outside(TEST, SIZE)) {
            refused(Call.restored(0, n), NONE);
            refused(Call.restored(5, n), NONE);
        }
        sentence("or b is unreachable");
        for (int part = TEST; part <= SIZE; part++) {
            refused(Call.restored(6, part), NONE);
            refused(Call.restored(7, part), NONE);
        }
    }

    private static void restoredTargets() {
        sentence("ON_TRUE, ON_FALSE: the target, the same as the source's");
        for (State state : State.ALL_CONVERTED) {
            IfConverter x = state.make();
            targetsAre(x, new int[] {1, 5, 3, 5, 5, 8}, new int[] {2, 5, 4, 5, 5, 8});
        }
        for (int t = 1; t <= 12; t++) {
            for (int f = 1; f <= 12; f++) {
                IfConverter x = new IfConverter(12, 1, 2);
                x.branch(0, 1, t, f);
                x.branch(11, 1, 12, 12);
                x.convert();
                due(x, Call.restored(0, ON_TRUE), t);
                due(x, Call.restored(0, ON_FALSE), f);
                due(x, Call.restored(11, ON_TRUE), t < 12 || f < 12 ? 12 : NONE);
            }
        }
    }

    private static void targetsAre(IfConverter x, int[] onTrue, int[] onFalse) {
        for (int b = 0; b < onTrue.length; b++) {
            due(x, Call.restored(b, ON_TRUE), onTrue[b]);
            due(x, Call.restored(b, ON_FALSE), onFalse[b]);
        }
    }

    private static void restoredSize() {
        sentence("SIZE: the number of instructions, the same as the source's");
        int[] sizes = {0, 1, 1, 3, 1, 1};
        for (State state : State.ALL_CONVERTED) {
            IfConverter x = state.make();
            for (int b = 0; b < sizes.length; b++) {
                due(x, Call.restored(b, SIZE), sizes[b]);
            }
        }
        for (int cells = 1; cells <= 4; cells++) {
            IfConverter x = new IfConverter(2, cells, 2);
            for (int i = 0; i < cells; i++) {
                x.convert();
                due(x, Call.restored(1, SIZE), i);
                x.emit(1, SET, 0, 0);
            }
            x.emit(1, SET, 0, 0);
            x.convert();
            due(x, Call.restored(1, SIZE), cells);
        }
    }

    private static void restoredTest() {
        sentence("TEST: the tested register if the source's two targets are different; NONE if they are "
                + "the same, be the source's ending a jump or a branch.");
        int[] tests = {0, NONE, 1, NONE, NONE, NONE};
        for (State state : State.ALL_CONVERTED) {
            IfConverter x = state.make();
            for (int b = 0; b < tests.length; b++) {
                due(x, Call.restored(b, TEST), tests[b]);
            }
        }
        for (int r = 0; r < 8; r++) {
            IfConverter x = new IfConverter(4, 1, 8);
            for (int t = 1; t <= 4; t++) {
                for (int f = 1; f <= 4; f++) {
                    x.branch(0, r, t, f);
                    x.convert();
                    due(x, Call.restored(0, TEST), t == f ? NONE : r);
                }
                x.jump(0, t);
                x.convert();
                due(x, Call.restored(0, TEST), NONE);
            }
        }
    }

    private static void restoredChangesNothing() {
        sentence("The call changes nothing.");
        for (int b : BLOCKS_AND_OTHERS) {
            for (int part : new int[] {LEAST, -1, TEST, ON_TRUE, ON_FALSE, SIZE, 4, GREATEST}) {
                changesNothing(Call.restored(b, part));
            }
        }
    }

    // Promise 16.

    private static void sourceAnyTime() {
        sentence("source(b, part) answers a part of block b in the source, converted or not, reachable or "
                + "not.");
        for (State state : State.ALL) {
            IfConverter x = state.make();
            blockIs(x, 0, 0, 1, 2, 0);
            blockIs(x, 1, NONE, 5, 5, 1);
            blockIs(x, 2, 1, 3, 4, 1);
            blockIs(x, 3, NONE, 5, 5, 3);
            blockIs(x, 4, NONE, 5, 5, 1);
            blockIs(x, 5, NONE, 8, 8, 1);
            blockIs(x, 6, 3, 7, 8, 1);
            blockIs(x, 7, NONE, 8, 8, 0);
        }
    }

    private static void sourceNone() {
        sentence("NONE if b is not in 0..B-1");
        for (int n : outside(0, B - 1)) {
            for (int part = TEST; part <= SIZE; part++) {
                refused(Call.source(n, part), NONE);
            }
        }
        sentence("or part is not in 0..3");
        for (int n : outside(TEST, SIZE)) {
            refused(Call.source(0, n), NONE);
            refused(Call.source(6, n), NONE);
        }
    }

    private static void sourceTargets() {
        sentence("ON_TRUE, ON_FALSE: the target (for a jump, both are the jump's target)");
        IfConverter x = new IfConverter(12, 1, 2);
        for (int b = 0; b < 12; b++) {
            for (int t = b + 1; t <= 12; t++) {
                x.branch(b, 0, t, 12);
                due(x, Call.source(b, ON_TRUE), t);
                due(x, Call.source(b, ON_FALSE), 12);
                x.branch(b, 0, b + 1, t);
                due(x, Call.source(b, ON_TRUE), b + 1);
                due(x, Call.source(b, ON_FALSE), t);
                x.jump(b, t);
                due(x, Call.source(b, ON_TRUE), t);
                due(x, Call.source(b, ON_FALSE), t);
            }
        }
    }

    private static void sourceSize() {
        sentence("SIZE: the number of instructions");
        for (int cells = 1; cells <= 4; cells++) {
            IfConverter x = new IfConverter(12, cells, 2);
            for (int b = 0; b < 12; b++) {
                for (int i = 0; i < cells; i++) {
                    due(x, Call.source(b, SIZE), i);
                    x.emit(b, SET, 0, 0);
                }
                due(x, Call.source(b, SIZE), cells);
                x.emit(b, SET, 0, 0);
                due(x, Call.source(b, SIZE), cells);
                x.jump(b, 12);
                x.branch(b, 0, 12, 12);
                due(x, Call.source(b, SIZE), cells);
            }
            x.clear(3);
            due(x, Call.source(3, SIZE), 0);
            due(x, Call.source(4, SIZE), cells);
        }
    }

    private static void sourceTest() {
        sentence("TEST: the tested register of a branch, also if its two targets are the same; NONE for "
                + "a jump.");
        IfConverter x = new IfConverter(4, 1, 8);
        for (int r = 0; r < 8; r++) {
            for (int t = 2; t <= 4; t++) {
                x.branch(1, r, t, 4);
                due(x, Call.source(1, TEST), r);
                x.convert();
                due(x, Call.source(1, TEST), r);
                x.branch(1, r, t, t);
                due(x, Call.source(1, TEST), r);
                x.convert();
                due(x, Call.source(1, TEST), r);
                x.jump(1, t);
                due(x, Call.source(1, TEST), NONE);
            }
        }
    }

    private static void sourceChangesNothing() {
        sentence("The call changes nothing.");
        for (int b : BLOCKS_AND_OTHERS) {
            for (int part : new int[] {LEAST, -1, TEST, ON_TRUE, ON_FALSE, SIZE, 4, GREATEST}) {
                changesNothing(Call.source(b, part));
            }
        }
    }

    // Promise 17.

    private static void cellAnyTime() {
        sentence("cell(b, i, part) answers a part of instruction i (counted from 0) of block b in the "
                + "source, converted or not, reachable or not.");
        for (State state : State.ALL) {
            IfConverter x = state.make();
            cellIs(x, 1, 0, SET, 2, 10);
            cellIs(x, 2, 0, COPY, 3, 1);
            cellIs(x, 3, 0, SET, 2, 30);
            cellIs(x, 3, 1, ADD, 2, 1);
            cellIs(x, 3, 2, XOR, 0, 0);
            cellIs(x, 5, 0, SUB, 2, 1);
            cellIs(x, 6, 0, SET, 2, 60);
        }
    }

    private static void cellNone() {
        sentence("NONE if b is not in 0..B-1");
        for (int n : outside(0, B - 1)) {
            for (int part = OP; part <= ARG; part++) {
                refused(Call.cell(n, 0, part), NONE);
            }
        }
        sentence("or i is not in 0..size-1 of that block");
        for (int part = OP; part <= ARG; part++) {
            for (int n : outside(0, 2)) {
                refused(Call.cell(State.FULL_BLOCK, n, part), NONE);
            }
            for (int n : outside(0, 0)) {
                refused(Call.cell(2, n, part), NONE);
                refused(Call.cell(6, n, part), NONE);
            }
        }
        sentence("so for every i if the block is empty");
        for (int part = OP; part <= ARG; part++) {
            refused(Call.cell(State.EMPTY_BLOCK, 0, part), NONE);
            for (int n : outside(0, 0)) {
                refused(Call.cell(State.EMPTY_BLOCK, n, part), NONE);
            }
        }
        IfConverter x = State.UNCONVERTED.make();
        x.clear(State.FULL_BLOCK);
        for (int i = -1; i <= 4; i++) {
            cellIs(x, State.FULL_BLOCK, i, NONE, NONE, NONE);
        }
        sentence("or part is not in 0..2");
        for (int n : outside(OP, ARG)) {
            refused(Call.cell(2, 0, n), NONE);
            refused(Call.cell(State.FULL_BLOCK, 2, n), NONE);
        }
    }

    private static void cellParts() {
        sentence("Otherwise OP answers its op, DEST its d and ARG its x, each as given to emit.");
        IfConverter x = new IfConverter(12, 4, 8);
        for (int b = 0; b < 12; b++) {
            for (int i = 0; i < 4; i++) {
                x.emit(b, (b + i) % 8, (b + 3 * i) % 8, (5 * b + i) % 8);
            }
        }
        for (int round = 0; round < 2; round++) {
            for (int b = 0; b < 12; b++) {
                for (int i = 0; i < 4; i++) {
                    cellIs(x, b, i, (b + i) % 8, (b + 3 * i) % 8, (5 * b + i) % 8);
                }
            }
            x.convert();
            x.run(GUARDED, 12);
        }
    }

    private static void cellOfSet() {
        sentence("For SET, ARG answers the number x, which can be any int.");
        for (int n : outside(0, 0)) {
            IfConverter x = new IfConverter(2, 4, 2);
            x.emit(1, SET, 1, n);
            x.emit(1, SET, 0, 0);
            x.emit(1, SET, 0, n);
            cellIs(x, 1, 0, SET, 1, n);
            cellIs(x, 1, 1, SET, 0, 0);
            cellIs(x, 1, 2, SET, 0, n);
        }
    }

    private static void cellChangesNothing() {
        sentence("The call changes nothing.");
        for (int b : BLOCKS_AND_OTHERS) {
            for (int i : new int[] {LEAST, -1, 0, 1, 2, 3, 4, GREATEST}) {
                changesNothing(Call.cell(b, i, OP));
                changesNothing(Call.cell(b, i, ARG));
            }
            changesNothing(Call.cell(b, 0, DEST));
            changesNothing(Call.cell(b, 0, 3));
        }
    }
}
