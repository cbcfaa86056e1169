import java.nio.file.Files;
import java.nio.file.Path;
import java.util.ArrayDeque;
import java.util.Deque;
import java.util.HashSet;
import java.util.Set;
import java.util.regex.Matcher;
import java.util.regex.Pattern;

/** Rules of ../shared/LANGUAGE.md that can be seen in the text of the program. */
public final class LanguageTest {
    private static final String[] RULED_OUT = {"throw", "throws", "try", "catch", "synchronized", "assert",
        "import", "package", "protected", "instanceof", "null", "this\\s*::", "->", "::", "var", "enum",
        "equals", "hashCode", "toString", "Object", "System", "Thread", "Random", "float", "double",
        "Exact", "native", "volatile", "transient", "goto"};
    private static int wrong = 0;

    public static void main(String[] args) throws Exception {
        String source = Files.readString(Path.of("src/main/java/StampMap.java"));
        String code = source.replaceAll("/\\*(?s:.)*?\\*/", "").replaceAll("//[^\n]*", "");
        String bare = code.replaceAll("\"[^\"\n]*\"", "\"\"");
        for (String word : RULED_OUT) {
            boolean isWord = Character.isLetter(word.charAt(0));
            Matcher m = Pattern.compile(isWord ? "\\b" + word + "\\b" : Pattern.quote(word)).matcher(bare);
            check("no " + word, !m.find());
        }
        for (int i = 0; i < source.length(); i++) {
            char sign = source.charAt(i);
            check("a plain sign at " + i, sign == '\n' || (sign >= 32 && sign < 127));
        }
        check("no text joined by +", !Pattern.compile("\"\\s*\\+|\\+\\s*\"").matcher(bare).find());
        Matcher statics = Pattern.compile("static (?!final |\\w[\\w\\[\\]]* \\w+\\()[^;{]*[;{]").matcher(bare);
        check("static fields are final", !statics.find());
        Matcher classes = Pattern.compile("\\bclass (\\w+)").matcher(bare);
        int many = 0;
        while (classes.find()) {
            many++;
        }
        check("twelve classes at most", many <= 12);
        Matcher nested = Pattern.compile("(?m)^    (.*)\\bclass ").matcher(bare);
        while (nested.find()) {
            check("a class inside is private, static, final", nested.group(1).equals("private static final "));
        }
        measureMethods(bare);
        System.out.println(wrong == 0 ? "the text keeps to the language" : wrong + " rules are broken");
        if (wrong != 0) {
            System.exit(1);
        }
    }

    private static void measureMethods(String bare) {
        String[] lines = bare.split("\n");
        Pattern head = Pattern.compile("^( {4}| {8})(?!(?:return|else|new)\\b)"
                + "((?:public |private |static |final )*)[\\w<>\\[\\]]*? ?(\\w+)\\(([^)]*)\\) \\{$");
        Set<String> face = new HashSet<>();
        Deque<String> hidden = new ArrayDeque<>();
        for (int i = 0; i < lines.length; i++) {
            Matcher m = head.matcher(lines[i]);
            if (!m.find() || lines[i].trim().matches("(if|for|while|switch|\\} else).*")) {
                continue;
            }
            int end = i;
            while (end < lines.length && !lines[end].equals(m.group(1) + "}")) {
                end++;
            }
            check(m.group(3) + " has sixty lines at most, not " + (end - i), end - i <= 60);
            check(m.group(3) + " takes seven parameters at most", m.group(4).split(",").length <= 7);
            if (m.group(2).contains("public")) {
                face.add(m.group(3));
            } else {
                hidden.add(m.group(3));
            }
        }
        check("methods of the face were found", face.size() == 55);
        check("other methods were found", hidden.size() > 60);
        for (String name : hidden) {
            check(name + " bears no name of the face", !face.contains(name) || name.equals("StampMap"));
        }
    }

    private static void check(String what, boolean holds) {
        if (!holds) {
            wrong++;
            System.out.println("not so: " + what);
        }
    }
}
