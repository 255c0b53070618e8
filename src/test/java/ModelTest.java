import java.util.ArrayList;
import java.util.List;

/**
 * Compares IfConverter with a model that takes the document at its word: it lists all paths and
 * reads guards, control dependence and the truth of guards off that list. Compared are all regions
 * of up to five blocks, and long runs of calls (right and wrong ones) on regions of every size.
 */
public final class ModelTest {
    private static final int TOLD_AT_MOST = 40;
    private static final int[] EXTREMES = {Integer.MIN_VALUE, -32, 31, 32, 64, Integer.MAX_VALUE};

    private static int wrong = 0;
    private static long compared = 0;
    private static long seed = 20261115L;

    public static void main(String[] args) {
        for (int blocks = 2; blocks <= 5; blocks++) {
            allShapes(blocks);
        }
        for (int i = 0; i < 600; i++) {
            longRun(i);
        }
        System.out.println(wrong == 0 ? compared + " answers are as due"
                : wrong + " of " + compared + " answers are not as due");
        if (wrong != 0) {
            System.exit(1);
        }
    }

    // The comparison.

    private static void due(String where, String call, int got, int want) {
        compared++;
        if (got != want) {
            wrong++;
            if (wrong <= TOLD_AT_MOST) {
                System.out.println(where + ": " + call + " answered " + got + ", due is " + want);
            }
        }
    }

    /** Every choice of endings; every register decides one block, so the inputs choose the path. */
    private static void allShapes(int blocks) {
        int[] ending = new int[blocks];
        boolean more = true;
        while (more) {
            shape(blocks, ending);
            more = false;
            for (int b = 0; b < blocks && !more; b++) {
                int targets = blocks - b;
                ending[b]++;
                more = ending[b] < targets * targets;
                if (!more) {
                    ending[b] = 0;
                }
            }
        }
    }

    private static void shape(int blocks, int[] ending) {
        IfConverter x = new IfConverter(blocks, 1, blocks);
        Model m = new Model(blocks, 1, blocks);
        StringBuilder where = new StringBuilder("shape");
        for (int b = 0; b < blocks; b++) {
            int targets = blocks - b;
            int t = b + 1 + ending[b] / targets;
            int f = b + 1 + ending[b] % targets;
            where.append(' ').append(t).append('/').append(f);
            due(where.toString(), "branch", x.branch(b, b, t, f), m.branch(b, b, t, f));
        }
        due(where.toString(), "convert", x.convert(), m.convert());
        compareAnalysis(where.toString(), x, m);
        for (int inputs = 0; inputs < 1 << blocks; inputs += 1 + next(3)) {
            for (int r = 0; r < blocks; r++) {
                x.input(r, inputs >> r & 1);
                m.input(r, inputs >> r & 1);
            }
            String run = where + " inputs " + inputs;
            for (int form = 0; form < 3; form++) {
                int stop = next(blocks + 1);
                due(run, "run(" + form + ", " + stop + ")", x.run(form, stop), m.run(form, stop));
                compareRecord(run, x, m);
            }
        }
    }

    private static void longRun(int number) {
        int blocks = next(18) - 2;
        int cells = next(8) - 1;
        int regs = next(12) - 1;
        IfConverter x = new IfConverter(blocks, cells, regs);
        Model m = new Model(blocks, cells, regs);
        String where = "long run " + number + " (" + blocks + ", " + cells + ", " + regs + ")";
        compareAll(where + " at the start", x, m);
        for (int i = 0; i < 60; i++) {
            String at = where + " call " + i;
            edit(at, x, m);
            if (next(3) == 0) {
                due(at, "convert()", x.convert(), m.convert());
            }
            int runs = next(4);
            for (int k = 0; k < runs; k++) {
                int form = next(5) == 0 ? odd(3) : next(3);
                int stop = next(5) == 0 ? odd(m.blocks + 1) : next(m.blocks + 1);
                due(at, "run(" + form + ", " + stop + ")", x.run(form, stop), m.run(form, stop));
                compareRecord(at, x, m);
                input(at, x, m);
            }
            if (next(6) == 0) {
                compareAll(at, x, m);
            }
        }
        compareAll(where + " at the end", x, m);
    }

    private static void edit(String at, IfConverter x, Model m) {
        int b = near(m.blocks);
        int kind = next(12);
        if (kind < 5) {
            int op = near(8);
            int d = near(m.regs);
            int v = op == 0 ? number() : near(m.regs);
            due(at, "emit(" + b + ", " + op + ", " + d + ", " + v + ")", x.emit(b, op, d, v),
                    m.emit(b, op, d, v));
        } else if (kind < 6) {
            int t = target(b, m.blocks);
            due(at, "jump(" + b + ", " + t + ")", x.jump(b, t), m.jump(b, t));
        } else if (kind < 10) {
            int r = near(m.regs);
            int t = target(b, m.blocks);
            int f = target(b, m.blocks);
            due(at, "branch(" + b + ", " + r + ", " + t + ", " + f + ")", x.branch(b, r, t, f),
                    m.branch(b, r, t, f));
        } else if (kind < 11 && next(3) == 0) {
            due(at, "clear(" + b + ")", x.clear(b), m.clear(b));
        } else {
            input(at, x, m);
        }
    }

    private static void input(String at, IfConverter x, Model m) {
        int r = near(m.regs);
        int v = number();
        due(at, "input(" + r + ", " + v + ")", x.input(r, v), m.input(r, v));
    }

    private static void compareAll(String where, IfConverter x, Model m) {
        compareAnalysis(where, x, m);
        compareRecord(where, x, m);
        for (int b : around(m.blocks)) {
            for (int part : around(4)) {
                due(where, "source(" + b + ", " + part + ")", x.source(b, part), m.source(b, part));
            }
            for (int i : around(4)) {
                for (int part : around(3)) {
                    due(where, "cell(" + b + ", " + i + ", " + part + ")", x.cell(b, i, part),
                            m.cell(b, i, part));
                }
            }
        }
    }

    private static void compareAnalysis(String where, IfConverter x, Model m) {
        due(where, "guards()", x.guards(), m.guards());
        for (int b : around(m.blocks)) {
            due(where, "guardOf(" + b + ")", x.guardOf(b), m.guardOf(b));
            for (int part : around(4)) {
                due(where, "restored(" + b + ", " + part + ")", x.restored(b, part),
                        m.restored(b, part));
            }
            for (int a : around(m.blocks)) {
                for (int way = -1; way <= 2; way++) {
                    due(where, "depends(" + b + ", " + a + ", " + way + ")", x.depends(b, a, way),
                            m.depends(b, a, way));
                }
            }
        }
    }

    private static void compareRecord(String where, IfConverter x, Model m) {
        for (int r : around(m.regs)) {
            for (int when = -1; when <= 2; when++) {
                due(where, "value(" + r + ", " + when + ")", x.value(r, when), m.value(r, when));
            }
        }
        for (int b : around(m.blocks)) {
            due(where, "ran(" + b + ")", x.ran(b), m.ran(b));
            due(where, "holds(" + b + ")", x.holds(b), m.holds(b));
        }
    }

    // The choices: a plain sequence of numbers, the same in every run of the test.

    private static int next(int bound) {
        seed = seed * 6364136223846793005L + 1442695040888963407L;
        return (int) ((seed >>> 33) % bound);
    }

    private static int odd(int size) {
        int k = next(EXTREMES.length + 3);
        return k < EXTREMES.length ? EXTREMES[k] : k == EXTREMES.length ? -1 : size + k % 2;
    }

    private static int near(int size) {
        return next(16) == 0 ? odd(size) : next(size);
    }

    private static int target(int b, int blocks) {
        boolean plain = b >= 0 && b < blocks && next(16) != 0;
        return plain ? b + 1 + next(blocks - b) : near(blocks + 1);
    }

    private static int number() {
        int k = next(12);
        if (k < 6) {
            return 0;
        }
        return k < 10 ? next(5) - 2 : k == 10 ? odd(0) : next(Integer.MAX_VALUE) * 2 + next(2);
    }

    private static int[] around(int size) {
        int[] all = new int[size + 3 + EXTREMES.length];
        for (int i = 0; i < size + 3; i++) {
            all[i] = i - 1;
        }
        System.arraycopy(EXTREMES, 0, all, size + 3, EXTREMES.length);
        return all;
    }

    /** A path is a set of blocks, a bit for each: targets rise, so the set tells the order. */
    private static final class Model {
        final int blocks;
        final int cells;
        final int regs;
        private final List<List<int[]>> code = new ArrayList<>();
        private final int[] test;
        private final int[][] target;
        private final int[] inputs;
        private boolean converted = false;

        private List<List<Integer>> paths;
        private int[] guard;
        private int guardCount;

        private int form = -1;
        private int[] end;
        private int ran;
        private int c;

        Model(int blocks, int cells, int regs) {
            this.blocks = Math.min(Math.max(blocks, 2), 12);
            this.cells = Math.min(Math.max(cells, 1), 4);
            this.regs = Math.min(Math.max(regs, 2), 8);
            test = new int[this.blocks];
            target = new int[this.blocks][];
            inputs = new int[this.regs];
            for (int b = 0; b < this.blocks; b++) {
                code.add(new ArrayList<>());
                test[b] = -1;
                target[b] = new int[] {b + 1, b + 1};
            }
        }

        private static boolean in(int n, int least, int greatest) {
            return least <= n && n <= greatest;
        }

        private boolean block(int b) {
            return in(b, 0, blocks - 1);
        }

        private boolean reg(int r) {
            return in(r, 0, regs - 1);
        }

        private int edited() {
            converted = false;
            form = -1;
            return 1;
        }

        int emit(int b, int op, int d, int x) {
            if (!block(b) || !in(op, 0, 7) || !reg(d) || op != 0 && !reg(x)) {
                return -2;
            }
            if (code.get(b).size() == cells) {
                return -3;
            }
            code.get(b).add(new int[] {op, d, x});
            return edited();
        }

        private int end(int b, int r, int t, int f) {
            if (!block(b) || !in(t, b + 1, blocks) || !in(f, b + 1, blocks)) {
                return -2;
            }
            test[b] = r;
            target[b] = new int[] {f, t};
            return edited();
        }

        int jump(int b, int t) {
            return end(b, -1, t, t);
        }

        int branch(int b, int r, int t, int f) {
            return reg(r) ? end(b, r, t, f) : -2;
        }

        int clear(int b) {
            if (!block(b)) {
                return -2;
            }
            code.get(b).clear();
            return jump(b, b + 1);
        }

        int input(int r, int v) {
            if (!reg(r)) {
                return -2;
            }
            inputs[r] = v;
            return 1;
        }

        int convert() {
            converted = true;
            listPaths();
            guard = new int[blocks];
            guardCount = 0;
            for (int b = 0; b < blocks; b++) {
                guard[b] = -1;
                if (reachable(b)) {
                    for (int a = 0; a < b && guard[b] < 0; a++) {
                        guard[b] = reachable(a) && sameGuard(a, b) ? guard[a] : -1;
                    }
                    guard[b] = guard[b] < 0 ? guardCount++ : guard[b];
                }
            }
            return guardCount;
        }

        private void listPaths() {
            paths = new ArrayList<>();
            for (int b = 0; b <= blocks; b++) {
                paths.add(new ArrayList<>());
            }
            paths.get(blocks).add(0);
            for (int b = blocks - 1; b >= 0; b--) {
                for (int way = 0; way <= (target[b][0] == target[b][1] ? 0 : 1); way++) {
                    for (int path : paths.get(target[b][way])) {
                        paths.get(b).add(path | 1 << b);
                    }
                }
            }
        }

        private boolean every(int from, int b) {
            for (int path : paths.get(from)) {
                if ((path >> b & 1) == 0) {
                    return false;
                }
            }
            return true;
        }

        private boolean reachable(int b) {
            for (int path : paths.get(0)) {
                if ((path >> b & 1) != 0) {
                    return true;
                }
            }
            return false;
        }

        private boolean sameGuard(int a, int b) {
            for (int path : paths.get(0)) {
                if ((path >> a & 1) != (path >> b & 1)) {
                    return false;
                }
            }
            return true;
        }

        int run(int f, int stop) {
            if (!in(f, 0, 2) || !in(stop, 0, blocks)) {
                return -2;
            }
            if (f != 0 && !converted) {
                return -4;
            }
            form = f;
            end = inputs.clone();
            ran = 0;
            c = 0;
            while (c < stop) {
                ran |= 1 << c;
                for (int[] cell : code.get(c)) {
                    step(cell[0], cell[1], cell[2]);
                }
                c = target[c][test[c] >= 0 && end[test[c]] == 0 ? 0 : 1];
            }
            return c;
        }

        private void step(int op, int d, int x) {
            long y = op == 0 ? x : end[x];
            long[] all = {x, y, end[d] + y, end[d] - y, end[d] * y, end[d] ^ y,
                end[d] < y ? 1 : 0, end[d] == y ? 1 : 0};
            end[d] = (int) all[op];
        }

        int value(int r, int when) {
            if (!reg(r) || !in(when, 0, 1)) {
                return 0;
            }
            return when == 0 ? inputs[r] : form < 0 ? 0 : end[r];
        }

        int ran(int b) {
            return form < 0 || !block(b) ? -1 : ran >> b & 1;
        }

        int holds(int g) {
            if (form != 1 || !in(g, 0, guardCount - 1)) {
                return -1;
            }
            for (int rest : paths.get(c)) {
                for (int b = 0; b < blocks; b++) {
                    if (guard[b] == g && ((ran | rest) >> b & 1) == 0) {
                        return 0;
                    }
                }
            }
            return 1;
        }

        int guards() {
            return converted ? guardCount : -1;
        }

        int guardOf(int b) {
            return converted && block(b) ? guard[b] : -1;
        }

        int depends(int b, int a, int way) {
            if (guardOf(b) < 0 || guardOf(a) < 0 || !in(way, 0, 1)) {
                return -1;
            }
            return every(target[a][way], b) && !every(a, b) ? 1 : 0;
        }

        int restored(int b, int part) {
            if (guardOf(b) < 0) {
                return -1;
            }
            return part == 0 && target[b][0] == target[b][1] ? -1 : source(b, part);
        }

        int source(int b, int part) {
            if (!block(b) || !in(part, 0, 3)) {
                return -1;
            }
            return new int[] {test[b], target[b][1], target[b][0], code.get(b).size()}[part];
        }

        int cell(int b, int i, int part) {
            if (!block(b) || !in(i, 0, code.get(b).size() - 1) || !in(part, 0, 2)) {
                return -1;
            }
            return code.get(b).get(i)[part];
        }
    }
}
