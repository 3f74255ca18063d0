import java.io.IOException;
import java.lang.reflect.InvocationTargetException;
import java.lang.reflect.Method;
import java.lang.reflect.Modifier;
import java.nio.file.Files;
import java.nio.file.Path;
import java.util.List;
import java.util.Set;
import java.util.TreeSet;
import java.util.regex.Matcher;
import java.util.regex.Pattern;

/** The examples of README.md: each is made on a new object, and each of its calls answers what stands behind it. */
public final class ReadmeTest {
    private static final Check CHECK = new Check("ReadmeTest");
    private static final Pattern CALL = Pattern.compile("x\\.(\\w+)\\(([^)]*)\\);\\s+// (-?\\d+)(:.*)?");

    public static void main(String[] args) throws IOException, ReflectiveOperationException {
        Set<String> shown = new TreeSet<>();
        int examples = 0;
        TwoWorlds x = null;
        for (String line : Files.readAllLines(Path.of("README.md"))) {
            if (line.equals("```java")) {
                x = new TwoWorlds();
                examples++;
            } else if (line.equals("```")) {
                x = null;
            } else if (x != null) {
                shown.add(example(x, line));
            }
        }
        CHECK.due("examples", examples, 5);
        CHECK.due("each call is shown", shown.toString(), face().toString());
        constants(Files.readString(Path.of("README.md")));
        CHECK.end();
    }

    private static Set<String> face() {
        Set<String> names = new TreeSet<>();
        for (Method method : TwoWorlds.class.getDeclaredMethods()) {
            if (Modifier.isPublic(method.getModifiers())) {
                names.add(method.getName());
            }
        }
        return names;
    }

    /** The name of the call. */
    private static String example(TwoWorlds x, String line) throws ReflectiveOperationException {
        Matcher call = CALL.matcher(line);
        if (!call.matches()) {
            CHECK.due("a line that is no call: " + line, 0, 1);
            return "";
        }
        String given = call.group(2);
        List<String> arguments = given.isEmpty() ? List.of() : List.of(given.split(", "));
        CHECK.due(line, answer(x, call.group(1), arguments), Integer.parseInt(call.group(3)));
        return call.group(1);
    }

    private static int answer(TwoWorlds x, String name, List<String> given)
            throws IllegalAccessException, InvocationTargetException {
        for (Method method : TwoWorlds.class.getMethods()) {
            if (method.getName().equals(name) && method.getParameterCount() == given.size()) {
                Object[] arguments = new Object[given.size()];
                for (int i = 0; i < arguments.length; i++) {
                    boolean yesOrNo = method.getParameterTypes()[i] == boolean.class;
                    arguments[i] = yesOrNo ? (Object) Boolean.valueOf(given.get(i)) : Integer.decode(given.get(i));
                }
                return (int) method.invoke(x, arguments);
            }
        }
        throw new IllegalArgumentException("no call " + name + " of " + given.size());
    }

    private static void constants(String readme) throws IllegalAccessException {
        for (var field : TwoWorlds.class.getFields()) {
            String row = "(?s).*\\| `" + field.getName() + "` +\\| " + field.getInt(null) + " \\|.*";
            CHECK.due("the row of " + field.getName(), readme.matches(row) ? 1 : 0, 1);
        }
    }
}
