import java.io.PrintWriter;
import java.io.StringWriter;
import java.util.HashMap;
import java.util.LinkedHashSet;
import java.util.Map;
import java.util.Set;
import java.util.regex.Matcher;
import java.util.regex.Pattern;
import java.util.spi.ToolProvider;

/** LANGUAGE.md 8 and 11: no method of the class comes to itself, and calls go at most eight deep. */
public final class DepthTest {
    private static final int MOST = 8;
    private static final Pattern METHOD = Pattern.compile("^  \\S.*?([\\w$]+)\\([^)]*\\);$");
    private static final Pattern CALL = Pattern.compile("invoke\\w+ .*// (?:Interface)?Method ([^:]+):");
    private static final Due due = new Due();

    private final Map<String, Set<String>> calls = new HashMap<>();
    private final Map<String, Integer> depths = new HashMap<>();

    public static void main(String[] args) {
        DepthTest test = new DepthTest();
        test.read("NobodyJoins");
        for (Class<?> inside : NobodyJoins.class.getDeclaredClasses()) {
            test.read(inside.getName());
        }
        due.is("methods were found", test.calls.size() > 60 ? 1 : 0, 1);
        for (String method : test.calls.keySet()) {
            int depth = test.depthOf(method, new LinkedHashSet<>());
            due.is(method + " goes " + depth + " deep, which is within the bound", depth <= MOST ? 1 : 0, 1);
        }
        due.end("DepthTest");
    }

    private void read(String name) {
        StringWriter out = new StringWriter();
        ToolProvider javap = ToolProvider.findFirst("javap").orElseThrow();
        PrintWriter to = new PrintWriter(out);
        javap.run(to, to, "-p", "-c", "-cp", System.getProperty("java.class.path"), name);
        String method = name + ".";
        for (String line : out.toString().split("\\R")) {
            Matcher head = METHOD.matcher(line);
            if (head.matches()) {
                // A constructor is told by its class's name there, by <init> where it is called.
                String called = head.group(1).equals(name) ? "\"<init>\"" : head.group(1);
                method = name + "." + called;
                calls.putIfAbsent(method, new LinkedHashSet<>());
            }
            Matcher call = CALL.matcher(line);
            if (call.find()) {
                String whole = call.group(1).contains(".") ? call.group(1) : name + "." + call.group(1);
                calls.computeIfAbsent(method, m -> new LinkedHashSet<>()).add(whole);
            }
        }
    }

    /** How many calls stand open at once below and with this one; the library's own are not counted. */
    private int depthOf(String method, Set<String> open) {
        if (!calls.containsKey(method)) {
            return 0;
        }
        if (depths.containsKey(method)) {
            return depths.get(method);
        }
        due.is(method + " comes to itself by " + open, open.add(method) ? 0 : 1, 0);
        int deepest = 0;
        for (String next : calls.get(method)) {
            deepest = open.contains(next) ? MOST : Math.max(deepest, depthOf(next, open));
        }
        open.remove(method);
        depths.put(method, deepest + 1);
        return deepest + 1;
    }
}
