import java.lang.reflect.Constructor;
import java.lang.reflect.Field;
import java.lang.reflect.Method;
import java.lang.reflect.Modifier;
import java.util.Map;
import java.util.Set;
import java.util.TreeMap;
import java.util.TreeSet;

/** The public face: the constants, constructor and methods of the document, and no other member. */
public final class FaceTest {
    private static int wrong = 0;

    private static void due(String what, Object got, Object want) {
        if (!got.equals(want)) {
            wrong++;
            System.out.println(what + " is " + got + ", due is " + want);
        }
    }

    public static void main(String[] args) throws Exception {
        theClass();
        constants();
        constructor();
        methods();
        System.out.println(wrong == 0 ? "the face is as due" : wrong + " parts are not as due");
        if (wrong != 0) {
            System.exit(1);
        }
    }

    private static void theClass() {
        int modifiers = IfConverter.class.getModifiers();
        due("public", Modifier.isPublic(modifiers), true);
        due("final", Modifier.isFinal(modifiers), true);
        due("superclass", IfConverter.class.getSuperclass(), Object.class);
        due("interfaces", IfConverter.class.getInterfaces().length, 0);
        due("nested classes", IfConverter.class.getDeclaredClasses().length, 0);
    }

    private static void constants() throws Exception {
        Map<String, Integer> want = new TreeMap<>();
        String all = "OK 1 NONE -1 BAD -2 FULL -3 UNCONVERTED -4"
                + " SET 0 COPY 1 ADD 2 SUB 3 MUL 4 XOR 5 LESS 6 EQUAL 7"
                + " SOURCE 0 GUARDED 1 RESTORED 2"
                + " TEST 0 ON_TRUE 1 ON_FALSE 2 SIZE 3"
                + " OP 0 DEST 1 ARG 2"
                + " BEFORE 0 AFTER 1"
                + " MAX_BLOCKS 12 MAX_CELLS 4 MAX_REGS 8";
        String[] words = all.split(" ");
        for (int i = 0; i < words.length; i += 2) {
            want.put(words[i], Integer.valueOf(words[i + 1]));
        }
        Map<String, Integer> got = new TreeMap<>();
        for (Field field : IfConverter.class.getDeclaredFields()) {
            int modifiers = field.getModifiers();
            if (!Modifier.isPrivate(modifiers)) {
                boolean constant = Modifier.isPublic(modifiers) && Modifier.isStatic(modifiers)
                        && Modifier.isFinal(modifiers) && field.getType() == int.class;
                due(field.getName() + " public static final int", constant, true);
                if (constant) {
                    got.put(field.getName(), field.getInt(null));
                }
            }
        }
        due("the constants", got, want);
    }

    private static void constructor() {
        Constructor<?>[] all = IfConverter.class.getDeclaredConstructors();
        due("number of constructors", all.length, 1);
        due("constructor", all[0].toString(), "public IfConverter(int,int,int)");
    }

    private static void methods() {
        Set<String> want = new TreeSet<>();
        String[] names = {"guards", "convert", "jump", "branch", "clear", "input", "run", "value",
            "ran", "holds", "guardOf", "depends", "restored", "source", "cell", "emit"};
        int[] parameters = {0, 0, 2, 4, 1, 2, 2, 2, 1, 1, 1, 3, 2, 2, 3, 4};
        for (int i = 0; i < names.length; i++) {
            String ints = "int,int,int,int".substring(0, Math.max(0, parameters[i] * 4 - 1));
            want.add("public int IfConverter." + names[i] + "(" + ints + ")");
        }
        Set<String> got = new TreeSet<>();
        for (Method method : IfConverter.class.getDeclaredMethods()) {
            if (!Modifier.isPrivate(method.getModifiers())) {
                got.add(method.toString());
            }
        }
        due("the methods", got, want);
    }
}
