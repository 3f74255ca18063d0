import java.io.PrintWriter;
import java.io.StringWriter;
import java.util.ArrayList;
import java.util.HashMap;
import java.util.HashSet;
import java.util.List;
import java.util.Map;
import java.util.Optional;
import java.util.Set;
import java.util.TreeMap;
import java.util.TreeSet;
import java.util.regex.Matcher;
import java.util.regex.Pattern;
import java.util.spi.ToolProvider;

/** Rules 8 and 11 of LANGUAGE.md, as far as the compiled class shows which method calls which. */
public final class CallsTest {
    private static final Check CHECK = new Check("CallsTest");
    private static final Pattern HEAD = Pattern.compile("^  (?:(.*) )?([\\w$]+)\\(.*\\);$");
    private static final Pattern CALLED = Pattern.compile("// Method (?:([\\w$]+)\\.)?\"?([\\w<>]+)\"?:");
    private static final int DEEPEST = 8;

    private static final Map<String, Set<String>> CALLS = new TreeMap<>();
    private static final Set<String> PRIVATE = new HashSet<>();

    public static void main(String[] args) {
        Optional<ToolProvider> javap = ToolProvider.findFirst("javap");
        if (javap.isEmpty()) {
            System.out.println("CallsTest: no javap here, so nothing was looked at");
            return;
        }
        for (Class<?> inside : allClasses()) {
            lookAt(javap.get(), inside.getName());
        }
        CHECK.due("there are methods", CALLS.size() > 100 ? 1 : 0, 1);
        int recursive = 0;
        for (String method : CALLS.keySet()) {
            if (reaches(method).contains(method)) {
                recursive++;
                CHECK.due("8 " + method + " calls itself and is private", PRIVATE.contains(method) ? 1 : 0, 1);
            }
        }
        CHECK.due("8 the recursions are seen", recursive >= 5 ? 1 : 0, 1);
        Map<String, List<String>> known = new HashMap<>();
        for (String method : CALLS.keySet()) {
            if (method.startsWith("TwoWorlds.")) {
                List<String> chain = longest(method, new HashSet<>());
                CHECK.due("11 " + chain + " is at most " + DEEPEST + " deep", chain.size() <= DEEPEST ? 1 : 0, 1);
                known.put(method, chain);
            }
        }
        CHECK.due("11 chains are seen", known.get("TwoWorlds.read").size() > 4 ? 1 : 0, 1);
        CHECK.end();
    }

    private static List<Class<?>> allClasses() {
        List<Class<?>> all = new ArrayList<>();
        all.add(TwoWorlds.class);
        all.addAll(List.of(TwoWorlds.class.getDeclaredClasses()));
        return all;
    }

    private static void lookAt(ToolProvider javap, String name) {
        StringWriter text = new StringWriter();
        PrintWriter out = new PrintWriter(text);
        javap.run(out, out, "-p", "-c", "-cp", System.getProperty("java.class.path"), name);
        out.flush();
        String method = "";
        for (String line : text.toString().lines().toList()) {
            Matcher head = HEAD.matcher(line);
            Matcher called = CALLED.matcher(line);
            if (head.matches()) {
                method = name + "." + (head.group(2).equals(name) ? "<init>" : head.group(2));
                CALLS.putIfAbsent(method, new TreeSet<>());
                if (head.group(1) != null && head.group(1).contains("private")) {
                    PRIVATE.add(method);
                }
            } else if (called.find() && !method.isEmpty()) {
                CALLS.get(method).add((called.group(1) == null ? name : called.group(1)) + "." + called.group(2));
            }
        }
    }

    private static Set<String> called(String method) {
        Set<String> own = new TreeSet<>(CALLS.getOrDefault(method, Set.of()));
        own.retainAll(CALLS.keySet());
        return own;
    }

    /** All that is called from there on; the method itself only if it comes back to it. */
    private static Set<String> reaches(String method) {
        Set<String> all = new TreeSet<>();
        List<String> open = new ArrayList<>(called(method));
        while (!open.isEmpty()) {
            String next = open.remove(open.size() - 1);
            if (all.add(next)) {
                open.addAll(called(next));
            }
        }
        return all;
    }

    /** The longest chain of calls, each method in it once. */
    private static List<String> longest(String method, Set<String> above) {
        List<String> best = List.of();
        above.add(method);
        for (String next : called(method)) {
            if (!above.contains(next)) {
                List<String> chain = longest(next, above);
                best = chain.size() > best.size() ? chain : best;
            }
        }
        above.remove(method);
        List<String> all = new ArrayList<>(List.of(method));
        all.addAll(best);
        return all;
    }
}
