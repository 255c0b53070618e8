import java.lang.reflect.Method;
import java.lang.reflect.Modifier;
import java.nio.file.Files;
import java.nio.file.Path;
import java.util.Arrays;
import java.util.Set;
import java.util.TreeSet;
import java.util.regex.Matcher;
import java.util.regex.Pattern;

/** The example in README.md: each call answers what is told behind it, and every call is in it. */
public final class ReadmeTest {
    private static final Pattern MAKE = Pattern.compile("IfConverter x = new IfConverter\\((.*?)\\);.*");
    private static final Pattern CALL =
            Pattern.compile("x\\.(\\w+)\\((.*?)\\); +// -> (-?\\d+|[A-Z_]+)(:.*)?");

    private static final Set<String> called = new TreeSet<>();
    private static IfConverter x = null;
    private static int calls = 0;
    private static int wrong = 0;

    public static void main(String[] args) throws ReflectiveOperationException, java.io.IOException {
        boolean inside = false;
        for (String line : Files.readAllLines(Path.of("README.md"))) {
            if (line.startsWith("```")) {
                inside = line.equals("```java");
            } else if (inside && !line.isBlank()) {
                follow(line);
            }
        }
        due("the calls of the example", called, publicMethods());
        System.out.println(wrong == 0 ? calls + " calls answer as README.md tells"
                : wrong + " of " + calls + " calls don't answer as README.md tells");
        if (wrong != 0) {
            System.exit(1);
        }
    }

    private static void due(String what, Object got, Object want) {
        if (!got.equals(want)) {
            wrong++;
            System.out.println(what + " answered " + got + ", README.md tells " + want);
        }
    }

    private static void follow(String line) throws ReflectiveOperationException {
        Matcher make = MAKE.matcher(line);
        Matcher call = CALL.matcher(line);
        if (make.matches()) {
            Object[] sizes = numbers(make.group(1));
            x = new IfConverter((Integer) sizes[0], (Integer) sizes[1], (Integer) sizes[2]);
        } else if (call.matches()) {
            calls++;
            called.add(call.group(1));
            due(line, answer(call.group(1), numbers(call.group(2))), number(call.group(3)));
        } else {
            due(line, "not a call", "a call with its answer");
        }
    }

    private static Object answer(String name, Object[] arguments) throws ReflectiveOperationException {
        Class<?>[] types = new Class<?>[arguments.length];
        Arrays.fill(types, int.class);
        return IfConverter.class.getMethod(name, types).invoke(x, arguments);
    }

    private static Object[] numbers(String list) throws ReflectiveOperationException {
        String[] words = list.isEmpty() ? new String[0] : list.split(", ");
        Object[] all = new Object[words.length];
        for (int i = 0; i < words.length; i++) {
            all[i] = number(words[i]);
        }
        return all;
    }

    /** A number, or the value of a constant. */
    private static Integer number(String word) throws ReflectiveOperationException {
        if (word.matches("-?\\d+")) {
            return Integer.valueOf(word);
        }
        return IfConverter.class.getField(word.replace("IfConverter.", "")).getInt(null);
    }

    private static Set<String> publicMethods() {
        Set<String> names = new TreeSet<>();
        for (Method method : IfConverter.class.getDeclaredMethods()) {
            if (Modifier.isPublic(method.getModifiers())) {
                names.add(method.getName());
            }
        }
        return names;
    }
}
