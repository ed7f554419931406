import java.io.IOException;
import java.lang.reflect.Field;
import java.lang.reflect.Method;
import java.lang.reflect.Modifier;
import java.nio.file.Files;
import java.nio.file.Path;
import java.util.Set;
import java.util.TreeSet;
import java.util.regex.Matcher;
import java.util.regex.Pattern;

/** What README.md says of the class: its example answers what stands behind each call, and nothing public is left out. */
public final class ReadmeTest {
    private static final Pattern CALL = Pattern.compile("(?m)^desk\\.(\\w+)\\(([^)]*)\\);\\s*// ([\\w-]+)(:.*)?$");

    public static void main(String[] args) throws ReflectiveOperationException, IOException {
        String text = Files.readString(Path.of("README.md"));
        theExample(text);
        thePublicFace(text);
        Due.end();
    }

    private static void theExample(String text) throws ReflectiveOperationException {
        ColourDesk desk = new ColourDesk();
        Set<String> called = new TreeSet<>();
        int calls = 0;
        Matcher m = CALL.matcher(text);
        while (m.find()) {
            String[] arguments = m.group(2).isEmpty() ? new String[0] : m.group(2).split(", ");
            Due.is("README: " + m.group(), answer(desk, m.group(1), arguments), value(m.group(3)));
            called.add(m.group(1));
            calls++;
        }
        Due.is("README: every line of the example is a call with its answer", calls, text.split("\ndesk\\.", -1).length - 1);
        Due.is("README: the example has every call " + called, called.size(), 14);
    }

    private static void thePublicFace(String text) {
        for (Method method : ColourDesk.class.getDeclaredMethods()) {
            if (Modifier.isPublic(method.getModifiers())) {
                Due.is("README tells of " + method.getName(), text.contains("| `" + method.getName() + "("), true);
            }
        }
        for (Field field : ColourDesk.class.getDeclaredFields()) {
            if (Modifier.isPublic(field.getModifiers())) {
                Due.is("README tells of " + field.getName(), text.contains("`" + field.getName() + "`"), true);
            }
        }
        Due.is("README tells how the tests are run", text.contains("\n    .ci/run\n"), true);
    }

    private static long answer(ColourDesk desk, String name, String[] arguments) throws ReflectiveOperationException {
        for (Method method : ColourDesk.class.getMethods()) {
            if (method.getName().equals(name) && method.getParameterCount() == arguments.length) {
                Object[] given = new Object[arguments.length];
                for (int i = 0; i < given.length; i++) {
                    boolean isInt = method.getParameterTypes()[i] == int.class;
                    given[i] = isInt ? (Object) Integer.valueOf(arguments[i]) : (Object) Boolean.valueOf(arguments[i]);
                }
                return value(method.invoke(desk, given).toString());
            }
        }
        throw new NoSuchMethodException(name);
    }

    /** A number, true or false as 1 or 0, or one of the class's constants. */
    private static long value(String word) throws ReflectiveOperationException {
        if (word.equals("true") || word.equals("false")) {
            return word.equals("true") ? 1 : 0;
        }
        if (word.matches("-?\\d+")) {
            return Long.parseLong(word);
        }
        return ColourDesk.class.getField(word).getInt(null);
    }
}
