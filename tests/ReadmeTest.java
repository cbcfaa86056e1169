import java.io.IOException;
import java.lang.reflect.Method;
import java.lang.reflect.Modifier;
import java.net.URL;
import java.net.URLClassLoader;
import java.nio.file.Files;
import java.nio.file.Path;
import java.util.ArrayList;
import java.util.List;
import java.util.Set;
import java.util.TreeSet;
import java.util.regex.Matcher;
import java.util.regex.Pattern;
import java.util.stream.Stream;
import javax.tools.JavaCompiler;
import javax.tools.ToolProvider;

/**
 * What README.md says a call answers is what the call answers: its Java is put into one class, each
 * line with an answer behind it as a check, and that class is compiled and run. README.md names
 * every call of the face and every test, and no test that there is not.
 */
public final class ReadmeTest {
    private static final int FEWEST_ANSWERS = 80;
    private static final Pattern BLOCK = Pattern.compile("(?ms)^```java\n(.*?)^```$");
    private static final Pattern ANSWERED =
            Pattern.compile("(.*\\));\\s*// (NONE|true|false|-?\\d+)(?:: .*)?");
    private static final Pattern MADE =
            Pattern.compile("StampMap \\w+ = new StampMap\\(\\);|String \\w+ = \"[^\"]*\";");
    private static int wrong = 0;

    private ReadmeTest() {
    }

    public static void main(String[] args) throws Exception {
        String page = Files.readString(Path.of("README.md"));
        // Not added in one line: what fails inside of it would be lost.
        int unlike = run(checks(page));
        wrong += unlike;
        namesEveryCall(page);
        namesEveryTest(page);
        System.out.println(wrong == 0 ? "README.md says what is so" : wrong + " things are not so");
        if (wrong != 0) {
            System.exit(1);
        }
    }

    private static void fail(String why) {
        wrong++;
        System.out.println("not so: " + why);
    }

    /** A class that makes the page's calls; its run() answers how many the page tells wrongly. */
    private static String checks(String page) {
        StringBuilder members = new StringBuilder();
        StringBuilder calls = new StringBuilder();
        int answers = 0;
        Matcher blocks = BLOCK.matcher(page);
        while (blocks.find()) {
            if (blocks.group(1).startsWith("static ")) {
                members.append(blocks.group(1));
                continue;
            }
            for (String line : blocks.group(1).split("\n")) {
                answers += addCall(line, calls);
            }
        }
        if (answers < FEWEST_ANSWERS) {
            fail("the page tells " + answers + " answers");
        }
        return "public final class ReadmeCalls {\nprivate static final int NONE = StampMap.NONE;\n"
                + "private static int wrong = 0;\n"
                + "private static void due(String call, Object got, Object want) {\n"
                + "if (!got.equals(want)) { wrong++; System.out.println(call + \" answered \" + got"
                + " + \", the page says \" + want); }\n}\n" + members
                + "public static int run() {\n" + calls + "return wrong;\n}\n}\n";
    }

    private static int addCall(String line, StringBuilder calls) {
        Matcher answered = ANSWERED.matcher(line);
        if (answered.matches()) {
            String call = answered.group(1);
            String told = call.replace("\\", "\\\\").replace("\"", "\\\"");
            calls.append("due(\"").append(told).append("\", ").append(call).append(", ")
                    .append(answered.group(2)).append(");\n");
            return 1;
        }
        if (!MADE.matcher(line).matches()) {
            fail("a line tells its answer: " + line);
        }
        calls.append(line).append('\n');
        return 0;
    }

    private static int run(String source) throws Exception {
        JavaCompiler compiler = ToolProvider.getSystemJavaCompiler();
        if (compiler == null) {
            fail("there is a compiler");
            return 0;
        }
        Path folder = Files.createTempDirectory("readme");
        try {
            Path file = folder.resolve("ReadmeCalls.java");
            Files.writeString(file, source);
            String known = System.getProperty("java.class.path");
            String[] told = {"-cp", known, "-d", folder.toString(), file.toString()};
            if (compiler.run(null, null, null, told) != 0) {
                fail("the page's Java can be compiled");
                return 0;
            }
            try (URLClassLoader loader = new URLClassLoader(new URL[] {folder.toUri().toURL()})) {
                return (Integer) loader.loadClass("ReadmeCalls").getMethod("run").invoke(null);
            }
        } finally {
            remove(folder);
        }
    }

    private static void remove(Path folder) throws IOException {
        for (Path file : filesOf(folder)) {
            Files.delete(file);
        }
        Files.delete(folder);
    }

    private static List<Path> filesOf(Path folder) throws IOException {
        try (Stream<Path> files = Files.list(folder)) {
            return new ArrayList<>(files.toList());
        }
    }

    private static void namesEveryCall(String page) {
        for (Method method : StampMap.class.getDeclaredMethods()) {
            if (Modifier.isPublic(method.getModifiers())
                    && !Pattern.compile("\\b" + method.getName() + "\\(").matcher(page).find()) {
                fail("the page shows a call of " + method.getName());
            }
        }
    }

    private static void namesEveryTest(String page) throws IOException {
        Set<String> there = new TreeSet<>();
        for (Path file : filesOf(Path.of("tests"))) {
            if (file.toString().endsWith(".java")) {
                there.add("tests/" + file.getFileName());
            }
        }
        Set<String> named = new TreeSet<>();
        Matcher names = Pattern.compile("`(tests/\\w+\\.java)`").matcher(page);
        while (names.find()) {
            named.add(names.group(1));
        }
        if (!named.equals(there)) {
            fail("the page names " + named + ", there are " + there);
        }
    }
}
