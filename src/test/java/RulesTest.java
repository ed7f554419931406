import java.io.IOException;
import java.lang.reflect.Constructor;
import java.lang.reflect.Field;
import java.lang.reflect.Method;
import java.lang.reflect.Modifier;
import java.nio.file.Files;
import java.nio.file.Path;
import java.util.ArrayList;
import java.util.HashMap;
import java.util.List;
import java.util.Map;
import java.util.Set;
import java.util.TreeMap;
import java.util.TreeSet;
import java.util.regex.Matcher;
import java.util.regex.Pattern;

/** The public face of the document, and the rules of LANGUAGE.md that can be seen from the class and its source. */
public final class RulesTest {
    private static final Path SOURCE = Path.of("src", "main", "java", "ColourDesk.java");
    private static final Set<String> FACE = Set.of(
        "int put(int, int, int, int)", "int wipe()", "boolean registers(int)", "int alive(int, boolean)",
        "int clashes(int)", "int cost(int)", "int least()", "int place(int)", "int best(int)", "int input(int)",
        "int run()", "int output(int)", "int spent(int)", "int rewind()");
    private static final Set<String> CONSTANTS = Set.of("OK", "LONG", "NONE", "MEMORY");
    private static final String FORBIDDEN = "\\b(import|package|null|throw|throws|try|catch|finally|synchronized|assert"
        + "|instanceof|float|double|String|Object|Math|Integer|Long|System|Arrays|var|interface|enum|record|native"
        + "|volatile|this|super|hashCode|equals|toString|getClass|clone)\\b|->|::|\"|\\]\\s*\\[";
    private static final Pattern CALL = Pattern.compile("\\b([a-z]\\w*)\\s*\\(");
    private static final Set<String> NO_CALLS = Set.of("if", "for", "while", "switch", "return");

    public static void main(String[] args) throws IOException {
        theClass();
        theConstructor();
        theMethods();
        theFields();
        String source = Files.readString(SOURCE).replaceAll("(?s)/\\*.*?\\*/", "").replaceAll("//[^\\n]*", "");
        theWords(source);
        theArrays(source);
        theLoops(source);
        theCalls(source);
        Due.end();
    }

    private static void theClass() {
        Class<ColourDesk> c = ColourDesk.class;
        Due.is("public and final", c.getModifiers(), Modifier.PUBLIC | Modifier.FINAL);
        Due.is("no package", c.getPackageName().isEmpty(), true);
        Due.is("no nested class", c.getDeclaredClasses().length, 0);
        Due.is("no interface", c.getInterfaces().length, 0);
        Due.is("no super class", c.getSuperclass() == Object.class, true);
    }

    private static void theConstructor() {
        Constructor<?>[] all = ColourDesk.class.getDeclaredConstructors();
        Due.is("constructors", all.length, 1);
        Due.is("public constructor", all[0].getModifiers(), Modifier.PUBLIC);
        Due.is("its parameters", all[0].getParameterCount(), 0);
    }

    private static String signature(Method m) {
        List<String> types = new ArrayList<>();
        for (Class<?> type : m.getParameterTypes()) {
            types.add(type.getSimpleName());
        }
        return m.getReturnType().getSimpleName() + " " + m.getName() + "(" + String.join(", ", types) + ")";
    }

    private static void theMethods() {
        Set<String> shown = new TreeSet<>();
        Set<String> names = new TreeSet<>();
        for (Method m : ColourDesk.class.getDeclaredMethods()) {
            Due.is("few parameters: " + m, m.getParameterCount() <= 7, true);
            Due.is("answers no array: " + m, m.getReturnType().isPrimitive(), true);
            if (m.getModifiers() == Modifier.PUBLIC) {
                shown.add(signature(m));
                names.add(m.getName());
            }
        }
        Due.is("the public methods " + shown, shown.equals(new TreeSet<>(FACE)), true);
        for (Method m : ColourDesk.class.getDeclaredMethods()) {
            if (m.getModifiers() != Modifier.PUBLIC) {
                Due.is("private: " + m, Modifier.isPrivate(m.getModifiers()), true);
                Due.is("a name of its own: " + m, names.contains(m.getName()), false);
            }
        }
    }

    private static boolean isWhole(Class<?> type) {
        return type.isPrimitive() && type != float.class && type != double.class;
    }

    private static void theFields() {
        Set<String> shown = new TreeSet<>();
        int others = 0;
        for (Field f : ColourDesk.class.getDeclaredFields()) {
            Class<?> type = f.getType();
            Due.is("type of " + f, isWhole(type.isArray() ? type.getComponentType() : type), true);
            if (Modifier.isStatic(f.getModifiers())) {
                Due.is("constant: " + f, Modifier.isFinal(f.getModifiers()), true);
                Due.is("int or long: " + f, type == int.class || type == long.class, true);
            } else {
                others++;
                Due.is("an array field is final: " + f, !type.isArray() || Modifier.isFinal(f.getModifiers()), true);
            }
            if (Modifier.isPublic(f.getModifiers())) {
                shown.add(f.getName());
            } else {
                Due.is("private: " + f, Modifier.isPrivate(f.getModifiers()), true);
            }
        }
        Due.is("the public constants " + shown, shown.equals(new TreeSet<>(CONSTANTS)), true);
        Due.is("forty fields at most", others <= 40, true);
    }

    private static void theWords(String source) {
        Matcher m = Pattern.compile(FORBIDDEN).matcher(source);
        while (m.find()) {
            Due.is("forbidden in the source: " + m.group(), true, false);
        }
        Due.is("one class", source.split("\\bclass\\b", -1).length, 2);
    }

    private static void theArrays(String source) {
        Matcher m = Pattern.compile("(?m)^.*\\bnew\\b.*$").matcher(source);
        Pattern field = Pattern.compile("    private final (int|boolean)\\[\\] \\w+ = new \\1\\[[A-Z_]+\\];");
        while (m.find()) {
            Due.is("an array is made in a field: " + m.group(), field.matcher(m.group()).matches(), true);
        }
    }

    /** Every loop counts, in its own line, towards a bound. */
    private static void theLoops(String source) {
        Pattern counted = Pattern.compile("for \\(int (\\w+) = [^;]+; \\1 (?:(?:<|<=) [^;]+; \\1\\+\\+|>= [^;]+; \\1--)\\) \\{");
        Matcher m = Pattern.compile("(?m)\\b(for|while|do)\\b.*$").matcher(source);
        while (m.find()) {
            Due.is("a counter against a bound: " + m.group(), counted.matcher(m.group()).matches(), true);
        }
    }

    /** Each method's body by its name, found by the indentation that the source keeps to. */
    private static Map<String, String> bodies(String source) {
        Map<String, String> found = new TreeMap<>();
        Pattern method = Pattern.compile("(?ms)^    (?:public|private)[^=;{]*?(\\w+)\\([^)]*\\) \\{\\n(.*?)^    \\}");
        Matcher m = method.matcher(source);
        while (m.find()) {
            found.put(m.group(1), m.group(2));
            Due.is("short: " + m.group(1), m.group(2).split("\n").length <= 60, true);
        }
        return found;
    }

    private static void theCalls(String source) {
        Map<String, String> bodies = bodies(source);
        Due.is("methods found", bodies.size(), ColourDesk.class.getDeclaredMethods().length + 1);
        Map<String, Integer> depths = new HashMap<>();
        for (String name : bodies.keySet()) {
            int depth = depth(name, bodies, depths, 0);
            Due.is("six calls deep at most: " + name + " has " + depth, depth <= 6, true);
            noCallInCall(name, bodies.get(name));
        }
    }

    private static int depth(String name, Map<String, String> bodies, Map<String, Integer> known, int above) {
        if (above > bodies.size()) {
            return above;
        }
        if (known.containsKey(name)) {
            return known.get(name);
        }
        int deepest = 0;
        Matcher m = CALL.matcher(bodies.get(name));
        while (m.find()) {
            if (!NO_CALLS.contains(m.group(1))) {
                Due.is("a method of the class: " + m.group(1), bodies.containsKey(m.group(1)), true);
                deepest = Math.max(deepest, depth(m.group(1), bodies, known, above + 1));
            }
        }
        known.put(name, deepest + 1);
        return deepest + 1;
    }

    private static void noCallInCall(String name, String body) {
        Matcher m = CALL.matcher(body);
        while (m.find()) {
            if (!NO_CALLS.contains(m.group(1))) {
                String arguments = body.substring(m.end(), closing(body, m.end()));
                Due.is("no call in the arguments of " + m.group(1) + " in " + name, CALL.matcher(arguments).find(), false);
            }
        }
    }

    private static int closing(String body, int from) {
        int open = 1;
        int at = from;
        while (open > 0) {
            open += body.charAt(at) == '(' ? 1 : body.charAt(at) == ')' ? -1 : 0;
            at++;
        }
        return at - 1;
    }
}
