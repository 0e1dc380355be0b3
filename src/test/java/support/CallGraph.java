import java.io.PrintWriter;
import java.io.StringWriter;
import java.util.HashMap;
import java.util.HashSet;
import java.util.Map;
import java.util.Set;
import java.util.regex.Matcher;
import java.util.regex.Pattern;
import java.util.spi.ToolProvider;

/** Which method of the class calls which, by its bytecode: how deep calls go that are no recursion, and which come back. */
final class CallGraph {
    private static final Pattern CLASS = Pattern.compile(".*\\bclass (\\S+) \\{");
    private static final Pattern METHOD = Pattern.compile("  (?! ).*?([\\w$]+)\\([^)]*\\);");
    private static final Pattern CALLED = Pattern.compile(".*invoke\\w+\\s+#\\d+\\s+// Method (?:([\\w$/]+)\\.)?\"?([\\w<>]+)\"?:.*");
    private final Map<String, Set<String>> calls = new HashMap<>();

    CallGraph(Class<?> of) {
        StringWriter told = new StringWriter();
        String where = of.getProtectionDomain().getCodeSource().getLocation().getPath();
        ToolProvider reader = ToolProvider.findFirst("javap").orElseThrow();
        reader.run(new PrintWriter(told), new PrintWriter(System.out), namesOf(of, where));
        String inClass = "";
        Set<String> inMethod = new HashSet<>();
        for (String line : told.toString().split("\\R")) {
            Matcher aClass = CLASS.matcher(line);
            Matcher aMethod = METHOD.matcher(line);
            Matcher aCall = CALLED.matcher(line);
            if (aClass.matches()) {
                inClass = aClass.group(1);
            } else if (aMethod.matches()) {
                String name = aMethod.group(1).equals(inClass) ? "<init>" : aMethod.group(1);
                inMethod = calls.computeIfAbsent(inClass + "." + name, k -> new HashSet<>());
            } else if (aCall.matches()) {
                inMethod.add((aCall.group(1) == null ? inClass : aCall.group(1)) + "." + aCall.group(2));
            }
        }
    }

    private static String[] namesOf(Class<?> of, String where) {
        Class<?>[] inside = of.getDeclaredClasses();
        String[] names = new String[inside.length + 5];
        names[0] = "-c";
        names[1] = "-p";
        names[2] = "-cp";
        names[3] = where;
        names[4] = of.getName();
        for (int i = 0; i < inside.length; i++) {
            names[i + 5] = inside[i].getName();
        }
        return names;
    }

    int methods() {
        return calls.size();
    }

    int deepest() {
        int most = 0;
        for (String method : calls.keySet()) {
            most = Math.max(most, depth(method, new HashSet<>()));
        }
        return most;
    }

    /** Methods that come back to themselves, straight or by others. */
    Set<String> recursive() {
        Set<String> all = new HashSet<>();
        for (String method : calls.keySet()) {
            Set<String> reached = new HashSet<>();
            for (String called : calls.get(method)) {
                reach(called, reached);
            }
            if (reached.contains(method)) {
                all.add(method.substring(method.lastIndexOf('.') + 1));
            }
        }
        return all;
    }

    private void reach(String method, Set<String> reached) {
        if (calls.containsKey(method) && reached.add(method)) {
            for (String called : calls.get(method)) {
                reach(called, reached);
            }
        }
    }

    private int depth(String method, Set<String> open) {
        if (!calls.containsKey(method) || !open.add(method)) {
            return 0;
        }
        int most = 0;
        for (String called : calls.get(method)) {
            most = Math.max(most, depth(called, open));
        }
        open.remove(method);
        return most + 1;
    }
}
