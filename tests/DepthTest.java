import java.io.PrintWriter;
import java.io.StringWriter;
import java.util.ArrayList;
import java.util.HashMap;
import java.util.HashSet;
import java.util.LinkedHashSet;
import java.util.List;
import java.util.Map;
import java.util.Set;
import java.util.regex.Matcher;
import java.util.regex.Pattern;
import java.util.spi.ToolProvider;

/** No call goes more than eight deep, none recurs, and no method of the library but a few is called. */
public final class DepthTest {
    private static final Set<String> LIBRARY = Set.of("java/lang/Math.abs", "java/lang/Math.max",
        "java/lang/Math.min", "java/lang/Math.floorDiv", "java/lang/Integer.bitCount", "java/lang/Integer.compare",
        "java/lang/String.charAt", "java/lang/String.length", "java/lang/String.indexOf", "java/lang/Object.<init>");
    private static final Pattern HEAD = Pattern.compile("^  (?! ).*?([\\w$]+)\\(.*\\);$");
    private static final Pattern CALL = Pattern.compile("// (?:Interface)?Method (?:([\\w$/]+)\\.)?\"?([\\w<>]+)\"?:");
    private static final Map<String, Set<String>> calls = new HashMap<>();
    private static int wrong = 0;

    public static void main(String[] args) {
        Set<String> classes = new LinkedHashSet<>(List.of("StampMap"));
        for (Class<?> c : StampMap.class.getDeclaredClasses()) {
            classes.add(c.getName());
        }
        for (String name : classes) {
            readCalls(name);
        }
        if (calls.size() < 100) {
            wrong++;
            System.out.println("only " + calls.size() + " methods were read");
        }
        for (String method : new ArrayList<>(calls.keySet())) {
            int deep = depth(method, new HashSet<>());
            if (deep > 8) {
                wrong++;
                System.out.println(method + " goes " + deep + " deep");
            }
        }
        System.out.println(wrong == 0 ? "no call goes too deep" : wrong + " things are wrong with calls");
        if (wrong != 0) {
            System.exit(1);
        }
    }

    private static void readCalls(String name) {
        StringWriter out = new StringWriter();
        ToolProvider.findFirst("javap").orElseThrow().run(new PrintWriter(out), new PrintWriter(out),
            "-c", "-p", "-cp", System.getProperty("java.class.path"), name);
        String method = null;
        for (String line : out.toString().split("\n")) {
            Matcher head = HEAD.matcher(line);
            Matcher call = CALL.matcher(line);
            if (head.find()) {
                method = name + "." + (head.group(1).equals(name) ? "<init>" : head.group(1));
                calls.putIfAbsent(method, new HashSet<>());
            } else if (call.find() && method != null) {
                note(method, (call.group(1) == null ? name : call.group(1)) + "." + call.group(2));
            }
        }
    }

    private static void note(String method, String called) {
        if (!called.startsWith("java/")) {
            calls.get(method).add(called);
        } else if (!LIBRARY.contains(called)) {
            wrong++;
            System.out.println(method + " calls " + called);
        }
    }

    private static int depth(String method, Set<String> open) {
        if (!open.add(method)) {
            wrong++;
            System.out.println(method + " recurs");
            return 0;
        }
        int deepest = 0;
        for (String called : calls.getOrDefault(method, Set.of())) {
            deepest = Math.max(deepest, depth(called, open));
        }
        open.remove(method);
        return deepest + 1;
    }
}
