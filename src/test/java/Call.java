import java.util.Arrays;
import java.util.function.ToIntFunction;

/** One call with its arguments, so that it can be made on several objects and told in words. */
final class Call {
    private final String name;
    private final ToIntFunction<IfConverter> code;
    private final int[] arguments;

    private Call(String name, ToIntFunction<IfConverter> code, int... arguments) {
        this.name = name;
        this.code = code;
        this.arguments = arguments;
    }

    int on(IfConverter x) {
        return code.applyAsInt(x);
    }

    @Override
    public String toString() {
        String list = Arrays.toString(arguments);
        return name + "(" + list.substring(1, list.length() - 1) + ")";
    }

    static Call emit(int b, int op, int d, int x) {
        return new Call("emit", o -> o.emit(b, op, d, x), b, op, d, x);
    }

    static Call jump(int b, int t) {
        return new Call("jump", o -> o.jump(b, t), b, t);
    }

    static Call branch(int b, int r, int t, int f) {
        return new Call("branch", o -> o.branch(b, r, t, f), b, r, t, f);
    }

    static Call clear(int b) {
        return new Call("clear", o -> o.clear(b), b);
    }

    static Call input(int r, int v) {
        return new Call("input", o -> o.input(r, v), r, v);
    }

    static Call convert() {
        return new Call("convert", o -> o.convert());
    }

    static Call run(int form, int stop) {
        return new Call("run", o -> o.run(form, stop), form, stop);
    }

    static Call value(int r, int when) {
        return new Call("value", o -> o.value(r, when), r, when);
    }

    static Call ran(int b) {
        return new Call("ran", o -> o.ran(b), b);
    }

    static Call holds(int g) {
        return new Call("holds", o -> o.holds(g), g);
    }

    static Call guards() {
        return new Call("guards", o -> o.guards());
    }

    static Call guardOf(int b) {
        return new Call("guardOf", o -> o.guardOf(b), b);
    }

    static Call depends(int b, int a, int way) {
        return new Call("depends", o -> o.depends(b, a, way), b, a, way);
    }

    static Call restored(int b, int part) {
        return new Call("restored", o -> o.restored(b, part), b, part);
    }

    static Call source(int b, int part) {
        return new Call("source", o -> o.source(b, part), b, part);
    }

    static Call cell(int b, int i, int part) {
        return new Call("cell", o -> o.cell(b, i, part), b, i, part);
    }
}
