import java.io.IOException;
import java.lang.reflect.Constructor;
import java.lang.reflect.Executable;
import java.lang.reflect.Field;
import java.lang.reflect.Method;
import java.lang.reflect.Modifier;
import java.nio.file.Files;
import java.nio.file.Path;
import java.util.ArrayList;
import java.util.Arrays;
import java.util.HashSet;
import java.util.List;
import java.util.Set;
import java.util.TreeSet;

/** The public face of the document, and the rules of LANGUAGE.md that a test can see. */
public final class FaceTest {
    private static final Check CHECK = new Check("FaceTest");
    private static final String[] FACE = {
        "world int int", "mark int int int boolean", "tie int int int boolean", "turn int int int int",
        "join int int int", "about int int", "tied int int int", "game int int int", "rank int int",
        "play int int int", "pick int int", "answer int", "best", "state", "left", "feed int int int int int",
        "trim int", "read", "sentence int int", "written int int", "holds int int", "asked", "same int int",
        "part int int", "kinds int int int", "kind int", "colour int int int", "coloured int", "still int", "told int",
    };
    private static final String[] CONSTANTS = {"UNKNOWN", "OUTSIDE", "STATE", "FULL", "SPENT", "NONE"};
    private static final String[] FORBIDDEN_WORDS = {
        "throw", "throws", "try", "catch", "finally", "synchronized", "assert", "protected", "package",
        "hashCode", "toString", "System.out", "Exact", "Object", "float", "double", "Random", "Thread",
    };

    public static void main(String[] args) throws IOException {
        face();
        for (Class<?> inside : allClasses()) {
            members(inside);
        }
        source(Files.readString(Path.of("src/main/java/TwoWorlds.java")));
        CHECK.end();
    }

    private static List<Class<?>> allClasses() {
        List<Class<?>> all = new ArrayList<>();
        all.add(TwoWorlds.class);
        all.addAll(Arrays.asList(TwoWorlds.class.getDeclaredClasses()));
        return all;
    }

    private static void yes(String what, boolean is) {
        CHECK.due(what, is ? 1 : 0, 1);
    }

    private static void face() {
        int kind = TwoWorlds.class.getModifiers();
        yes("public and final", Modifier.isPublic(kind) && Modifier.isFinal(kind));
        Constructor<?>[] made = TwoWorlds.class.getDeclaredConstructors();
        yes("one constructor", made.length == 1 && made[0].getParameterCount() == 0);
        yes("a public one", Modifier.isPublic(made[0].getModifiers()));
        Set<String> methods = new TreeSet<>();
        for (Method method : TwoWorlds.class.getDeclaredMethods()) {
            if (Modifier.isPrivate(method.getModifiers())) {
                continue;
            }
            StringBuilder line = new StringBuilder(method.getName());
            for (Class<?> parameter : method.getParameterTypes()) {
                line.append(' ').append(parameter.getName());
            }
            methods.add(line.toString());
            yes(line + " is public and answers an int",
                    Modifier.isPublic(method.getModifiers()) && method.getReturnType() == int.class);
        }
        CHECK.due("methods", methods.toString(), new TreeSet<>(Arrays.asList(FACE)).toString());
        Set<String> constants = new TreeSet<>();
        for (Field field : TwoWorlds.class.getDeclaredFields()) {
            if (!Modifier.isPrivate(field.getModifiers())) {
                constants.add(field.getName());
            }
        }
        CHECK.due("constants", constants.toString(), new TreeSet<>(Arrays.asList(CONSTANTS)).toString());
        yes("at most twelve classes", allClasses().size() <= 12);
    }

    private static void members(Class<?> inside) {
        if (inside != TwoWorlds.class) {
            yes(inside + " is static", Modifier.isStatic(inside.getModifiers()));
            yes(inside + " is not public", !Modifier.isPublic(inside.getModifiers()));
            yes(inside + " has none inside", inside.getDeclaredClasses().length == 0);
        }
        Set<String> names = new HashSet<>();
        for (String line : FACE) {
            names.add(line.split(" ")[0]);
        }
        for (Method method : inside.getDeclaredMethods()) {
            boolean free = inside == TwoWorlds.class && Modifier.isPublic(method.getModifiers());
            yes(method + " bears no public name", free || !names.contains(method.getName()));
            fewParameters(method);
        }
        for (Constructor<?> made : inside.getDeclaredConstructors()) {
            fewParameters(made);
        }
        int fields = 0;
        for (Field field : inside.getDeclaredFields()) {
            boolean constant = Modifier.isStatic(field.getModifiers());
            yes(field + " is no static state", !constant || Modifier.isFinal(field.getModifiers()));
            fields += constant ? 0 : 1;
        }
        yes(inside + " has few fields", fields <= 20);
    }

    private static void fewParameters(Executable code) {
        yes(code + " has at most seven parameters", code.getParameterCount() <= 7);
    }

    private static void source(String text) {
        yes("characters 1 to 127", text.chars().allMatch(sign -> sign > 0 && sign < 128));
        String code = text.replaceAll("(?s)/\\*.*?\\*/", "").replaceAll("//[^\n]*", "").replaceAll("'\\\\?.'", "0");
        for (String word : FORBIDDEN_WORDS) {
            yes("no " + word, !code.matches("(?s).*\\b" + word.replace(".", "\\.") + "\\b.*"));
        }
        yes("no lambda, no method reference", !code.contains("->") && !code.contains("::"));
        yes("no text", !code.contains("\""));
        int begun = 0;
        String[] lines = text.split("\n");
        for (int i = 0; i < lines.length; i++) {
            if (lines[i].matches("( {4}| {8})[a-z].*\\) \\{")) {
                begun = i;
            }
            if (lines[i].matches("( {4}| {8})\\}")) {
                yes("line " + begun + ": a short method", i - begun <= 60 || lines[i].startsWith("    }"));
            }
        }
    }
}
