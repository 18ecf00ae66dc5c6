import java.lang.reflect.Constructor;
import java.lang.reflect.Field;
import java.lang.reflect.Method;
import java.lang.reflect.Modifier;
import java.nio.file.Files;
import java.nio.file.Path;
import java.util.Arrays;
import java.util.Set;
import java.util.TreeSet;
import java.util.regex.Matcher;
import java.util.regex.Pattern;

/** The public face is the document's, and the source keeps to the rules of LANGUAGE.md that can be seen in its text. */
public final class FaceTest {
    private static final String[] FACE = {
        "boolean source(int, int)", "int line(int, int)", "boolean load(int, int)", "int corner(int, int, int)",
        "boolean breaker(int, int, int, int)", "boolean remove(int)", "boolean dial(int, int)",
        "boolean fails(int, boolean)", "boolean told(int, int, int)", "int lineOf(int, int)",
        "long fault(int, int, int, int)", "int waits(int, int, int, int)", "int run(int, int, int)",
        "int ran(int, int)", "int right(int)", "int fit()", "long arc(int, int, int)", "long worst()",
        "int growth()", "int goal()", "int change()", "int step(int)", "int about(int)"};
    private static final String[] FORBIDDEN = {"throw", "try", "catch", "synchronized", "assert", "import", "package",
        "protected", "Exact", "Random", "System\\.(?!arraycopy)", "->", "::", "@", "double", "float", "static\\s*\\{",
        "hashCode", "toString", "Thread", "Object"};
    private static int wrong = 0;

    private static void must(boolean it, String what) {
        if (!it) {
            wrong++;
            System.out.println("not so: " + what);
        }
    }

    private static String shapeOf(Method m) {
        StringBuilder shape = new StringBuilder(m.getReturnType() + " " + m.getName() + "(");
        for (Class<?> p : m.getParameterTypes()) {
            shape.append(shape.charAt(shape.length() - 1) == '(' ? "" : ", ").append(p);
        }
        return shape.append(")").toString();
    }

    private static void face() throws ReflectiveOperationException {
        Class<?> c = BreakerRows.class;
        must(Modifier.isPublic(c.getModifiers()) && Modifier.isFinal(c.getModifiers()), "public and final");
        Set<String> found = new TreeSet<>();
        Set<String> names = new TreeSet<>();
        for (Method m : c.getDeclaredMethods()) {
            if (Modifier.isPublic(m.getModifiers())) {
                found.add(shapeOf(m));
                names.add(m.getName());
                must(!Modifier.isStatic(m.getModifiers()), m.getName() + " is of an object");
            }
        }
        must(found.equals(new TreeSet<>(Arrays.asList(FACE))), "the methods are the document's: " + found);
        for (Method m : c.getDeclaredMethods()) {
            must(Modifier.isPublic(m.getModifiers()) || Modifier.isPrivate(m.getModifiers()), m + " is private");
            must(Modifier.isPublic(m.getModifiers()) || !names.contains(m.getName()), m + " has a name of its own");
        }
        Constructor<?>[] makers = c.getDeclaredConstructors();
        must(makers.length == 1 && makers[0].getParameterCount() == 0
                && Modifier.isPublic(makers[0].getModifiers()), "one public constructor");
        for (Field f : c.getDeclaredFields()) {
            boolean none = f.getName().equals("NONE");
            must(none ? Modifier.isPublic(f.getModifiers()) : Modifier.isPrivate(f.getModifiers()), f + " is private");
            must(!Modifier.isStatic(f.getModifiers()) || Modifier.isFinal(f.getModifiers()), f + " is final");
        }
        must(c.getField("NONE").getInt(null) == -1, "NONE is -1");
        inside(c, names);
    }

    private static void inside(Class<?> c, Set<String> names) {
        must(c.getDeclaredClasses().length <= 12, "at most twelve classes");
        for (Class<?> in : c.getDeclaredClasses()) {
            must(Modifier.isStatic(in.getModifiers()), in + " is static");
            must(!Modifier.isPublic(in.getModifiers()) && !Modifier.isProtected(in.getModifiers()), in + " is inside");
            must(in.getDeclaredFields().length <= 20, in + " has few fields");
            for (Method m : in.getDeclaredMethods()) {
                must(!names.contains(m.getName()), in + " " + m.getName() + " has a name of its own");
                must(m.getParameterCount() <= 7, m + " takes at most seven");
            }
        }
    }

    private static void text(String source) {
        String code = source.replaceAll("(?s)/\\*.*?\\*/", "").replaceAll("//[^\n]*", "");
        for (String word : FORBIDDEN) {
            String bounded = Character.isLetter(word.charAt(0)) ? "\\b" + word : word;
            Matcher m = Pattern.compile(bounded).matcher(code);
            must(!m.find(), "no '" + word + "' in the source");
        }
        must(source.chars().allMatch(x -> x < 128), "plain signs alone");
    }

    public static void main(String[] args) throws Exception {
        face();
        must(args.length == 1, "the source's path is given");
        if (args.length == 1) {
            text(Files.readString(Path.of(args[0])));
        }
        System.out.println(wrong == 0 ? "the face is as due" : wrong + " things are not as due");
        if (wrong != 0) {
            System.exit(1);
        }
    }
}
