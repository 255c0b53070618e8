import java.util.ArrayList;
import java.util.Collections;
import java.util.List;

/** The answers of many calls in one list, so that two objects of State's region can be compared. */
final class Look {
    private static final List<Call> BESIDE = join(analysis(), record());
    private static final List<Call> NOW = join(text(IfConverter.NONE), BESIDE);
    private static final List<Call> NOW_BACKWARDS = backwards(NOW);
    private static final List<Call> AHEAD = join(join(runs(), edits()), join(NOW, runs()));

    private Look() {
    }

    /** All that can be asked without changing anything. */
    static int[] now(IfConverter x) {
        return answers(x, NOW);
    }

    /** The same in the other order: if asking changes something, one of the two shows it. */
    static int[] nowBackwards(IfConverter x) {
        return answers(x, NOW_BACKWARDS);
    }

    /** The source, but for one block or for none, and the inputs. */
    static int[] text(IfConverter x, int exceptBlock) {
        return answers(x, text(exceptBlock));
    }

    /** All that is neither source nor input. */
    static int[] beside(IfConverter x) {
        return answers(x, BESIDE);
    }

    /** What further calls answer: runs of all forms, edits, a conversion. It uses the object up. */
    static int[] ahead(IfConverter x) {
        return answers(x, AHEAD);
    }

    private static int[] answers(IfConverter x, List<Call> calls) {
        int[] all = new int[calls.size()];
        for (int i = 0; i < all.length; i++) {
            all[i] = calls.get(i).on(x);
        }
        return all;
    }

    private static List<Call> join(List<Call> first, List<Call> second) {
        List<Call> calls = new ArrayList<>(first);
        calls.addAll(second);
        return calls;
    }

    private static List<Call> backwards(List<Call> calls) {
        List<Call> other = new ArrayList<>(calls);
        Collections.reverse(other);
        return other;
    }

    private static List<Call> edits() {
        List<Call> calls = new ArrayList<>();
        for (int b = 0; b < State.BLOCKS; b++) {
            calls.add(Call.emit(b, IfConverter.XOR, 0, 1));
        }
        calls.addAll(BESIDE);
        calls.add(Call.convert());
        return calls;
    }

    private static List<Call> runs() {
        List<Call> calls = new ArrayList<>();
        for (int form = IfConverter.SOURCE; form <= IfConverter.RESTORED; form++) {
            for (int stop = 0; stop <= State.BLOCKS; stop++) {
                calls.add(Call.run(form, stop));
                calls.addAll(record());
            }
        }
        return calls;
    }

    // In each list the calls of one method stand together, for the sake of the other order.

    private static List<Call> text(int exceptBlock) {
        List<Call> sources = new ArrayList<>();
        List<Call> cells = new ArrayList<>();
        for (int b = 0; b < State.BLOCKS; b++) {
            if (b != exceptBlock) {
                for (int part = IfConverter.TEST; part <= IfConverter.SIZE; part++) {
                    sources.add(Call.source(b, part));
                }
                for (int i = 0; i < State.CELLS; i++) {
                    for (int part = IfConverter.OP; part <= IfConverter.ARG; part++) {
                        cells.add(Call.cell(b, i, part));
                    }
                }
            }
        }
        sources.addAll(cells);
        for (int r = 0; r < State.REGS; r++) {
            sources.add(Call.value(r, IfConverter.BEFORE));
        }
        return sources;
    }

    private static List<Call> analysis() {
        List<Call> guards = new ArrayList<>();
        List<Call> restored = new ArrayList<>();
        List<Call> depends = new ArrayList<>();
        guards.add(Call.guards());
        for (int b = 0; b < State.BLOCKS; b++) {
            guards.add(Call.guardOf(b));
            for (int part = IfConverter.TEST; part <= IfConverter.SIZE; part++) {
                restored.add(Call.restored(b, part));
            }
            for (int a = 0; a < State.BLOCKS; a++) {
                depends.add(Call.depends(b, a, 0));
                depends.add(Call.depends(b, a, 1));
            }
        }
        guards.addAll(restored);
        guards.addAll(depends);
        return guards;
    }

    private static List<Call> record() {
        List<Call> values = new ArrayList<>();
        List<Call> ran = new ArrayList<>();
        List<Call> holds = new ArrayList<>();
        for (int r = 0; r < State.REGS; r++) {
            values.add(Call.value(r, IfConverter.AFTER));
        }
        for (int b = 0; b < State.BLOCKS; b++) {
            ran.add(Call.ran(b));
            holds.add(Call.holds(b));
        }
        values.addAll(ran);
        values.addAll(holds);
        return values;
    }
}
