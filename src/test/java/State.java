/**
 * Every kind of state that an object can be in, each on the same region of 8 blocks, 3 cells and 4
 * registers: 0 branches to 1 and 2, 2 to 3 and 4; 1, 3 and 4 meet in 5, which leaves the region.
 * So 6 and 7 are not reachable. Block 3 is full; 0 and 7 are empty. The run goes 0, 2, 3, 5.
 */
enum State {
    UNCONVERTED(""),
    UNCONVERTED_WITH_RECORD("S"),
    UNCONVERTED_AGAIN("CGE"),
    UNCONVERTED_AGAIN_WITH_RECORD("CGES"),
    CONVERTED("C"),
    CONVERTED_SINCE_THE_RUN("SC"),
    CONVERTED_WITH_SOURCE_RECORD("CS"),
    CONVERTED_WITH_GUARDED_RECORD("CG"),
    CONVERTED_WITH_RESTORED_RECORD("CR");

    static final int BLOCKS = 8;
    static final int CELLS = 3;
    static final int REGS = 4;
    static final int GUARDS = 5;
    static final int FULL_BLOCK = 3;
    static final int EMPTY_BLOCK = 7;

    static final State[] ALL = values();
    static final State[] ALL_UNCONVERTED = {UNCONVERTED, UNCONVERTED_WITH_RECORD, UNCONVERTED_AGAIN,
        UNCONVERTED_AGAIN_WITH_RECORD};
    static final State[] ALL_CONVERTED = {CONVERTED, CONVERTED_SINCE_THE_RUN,
        CONVERTED_WITH_SOURCE_RECORD, CONVERTED_WITH_GUARDED_RECORD, CONVERTED_WITH_RESTORED_RECORD};
    static final State[] WITHOUT_RECORD = {UNCONVERTED, UNCONVERTED_AGAIN, CONVERTED};
    static final State[] WITH_UNGUARDED_RECORD = {UNCONVERTED_WITH_RECORD,
        UNCONVERTED_AGAIN_WITH_RECORD, CONVERTED_SINCE_THE_RUN, CONVERTED_WITH_SOURCE_RECORD,
        CONVERTED_WITH_RESTORED_RECORD};
    static final State[] WITH_RECORD = {UNCONVERTED_WITH_RECORD, UNCONVERTED_AGAIN_WITH_RECORD,
        CONVERTED_SINCE_THE_RUN, CONVERTED_WITH_SOURCE_RECORD, CONVERTED_WITH_GUARDED_RECORD,
        CONVERTED_WITH_RESTORED_RECORD};

    private final String steps;

    /** The steps: C for convert, E for an edit that keeps the text, else a run of the form's letter. */
    State(String steps) {
        this.steps = steps;
    }

    IfConverter make() {
        IfConverter x = region();
        for (char step : steps.toCharArray()) {
            if (step == 'C') {
                x.convert();
            } else if (step == 'E') {
                x.jump(1, 5);
            } else {
                x.run("SGR".indexOf(step), 4);
            }
        }
        return x;
    }

    /** The registers at the end of every state's record. */
    static int[] registersAfter() {
        return new int[] {0, 5, 35, 5};
    }

    private static IfConverter region() {
        IfConverter x = new IfConverter(BLOCKS, CELLS, REGS);
        x.branch(0, 0, 1, 2);
        x.emit(1, IfConverter.SET, 2, 10);
        x.jump(1, 5);
        x.emit(2, IfConverter.COPY, 3, 1);
        x.branch(2, 1, 3, 4);
        x.emit(3, IfConverter.SET, 2, 30);
        x.emit(3, IfConverter.ADD, 2, 1);
        x.emit(3, IfConverter.XOR, 0, 0);
        x.jump(3, 5);
        x.emit(4, IfConverter.SET, 2, 40);
        x.emit(5, IfConverter.SUB, 2, 1);
        x.jump(5, BLOCKS);
        x.emit(6, IfConverter.SET, 2, 60);
        x.branch(6, 3, 7, BLOCKS);
        x.input(1, 5);
        x.input(2, -2);
        x.input(3, 77);
        return x;
    }
}
