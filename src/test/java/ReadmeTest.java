import java.lang.reflect.Method;
import java.nio.file.Files;
import java.nio.file.Path;
import java.util.List;
import java.util.Set;
import java.util.TreeSet;
import java.util.regex.Matcher;
import java.util.regex.Pattern;

/** Each call of README.md's example answers what stands behind it, and no call of the face goes unnamed there. */
public final class ReadmeTest {
    private static final Pattern CALL = Pattern.compile("bench\\.(\\w+)\\(([^)]*)\\);\\s*// (-?\\w+).*");
    private static int wrong = 0;
    private static int asked = 0;

    private static void must(boolean it, String what) {
        if (!it) {
            wrong++;
            System.out.println("not so: " + what);
        }
    }

    private static Method methodOf(String name) {
        for (Method m : BreakerRows.class.getDeclaredMethods()) {
            if (m.getName().equals(name)) {
                return m;
            }
        }
        throw new IllegalStateException("no call " + name);
    }

    private static Object[] argumentsOf(Method m, String text) {
        String[] words = text.isEmpty() ? new String[0] : text.split(", ");
        Object[] arguments = new Object[words.length];
        for (int i = 0; i < words.length; i++) {
            boolean truth = m.getParameterTypes()[i] == boolean.class;
            arguments[i] = truth ? (Object) Boolean.valueOf(words[i]) : (Object) Integer.valueOf(words[i]);
        }
        return arguments;
    }

    private static void ask(BreakerRows bench, String line) throws ReflectiveOperationException {
        Matcher call = CALL.matcher(line);
        if (!call.matches()) {
            must(false, "a call with its answer: " + line);
            return;
        }
        Method m = methodOf(call.group(1));
        Object got = m.invoke(bench, argumentsOf(m, call.group(2)));
        asked++;
        must(got.toString().equals(call.group(3)), line + " answered " + got);
    }

    private static void example(List<String> lines) throws ReflectiveOperationException {
        BreakerRows bench = new BreakerRows();
        for (String line : lines) {
            if (line.startsWith("bench.")) {
                ask(bench, line);
            }
        }
        must(asked > 20, "an example with many calls");
    }

    private static void names(String text) {
        Set<String> missing = new TreeSet<>();
        for (Method m : BreakerRows.class.getDeclaredMethods()) {
            if (java.lang.reflect.Modifier.isPublic(m.getModifiers()) && !text.contains("`" + m.getName() + "(")) {
                missing.add(m.getName());
            }
        }
        must(missing.isEmpty(), "all calls are named: " + missing);
    }

    public static void main(String[] args) throws Exception {
        Path readme = Path.of("README.md");
        example(Files.readAllLines(readme));
        names(Files.readString(readme));
        System.out.println(asked + " calls of README.md, " + wrong + " things not as due");
        if (wrong != 0) {
            System.exit(1);
        }
    }
}
