import java.lang.reflect.Constructor;
import java.lang.reflect.Field;
import java.lang.reflect.Method;
import java.lang.reflect.Modifier;
import java.nio.file.Files;
import java.nio.file.Path;
import java.util.TreeSet;

/** The public face is that of the document's own block of code, and there is no other. */
public final class FaceTest {
    private static int wrong = 0;

    public static void main(String[] args) throws Exception {
        TreeSet<String> due = new TreeSet<>();
        for (String line : Files.readString(Path.of("../shared/DOC.md")).split("\n")) {
            if (line.startsWith("    public ")) {
                due.add(line.trim().replace("public ", "").replaceAll(" (\\w+)(?=[,)])", ""));
            }
        }
        check("members in the document", due.size() == 56);
        TreeSet<String> got = new TreeSet<>();
        for (Constructor<?> c : StampMap.class.getDeclaredConstructors()) {
            check("a constructor is public", Modifier.isPublic(c.getModifiers()));
            got.add("StampMap(" + names(c.getParameterTypes()) + ");");
        }
        for (Field f : StampMap.class.getDeclaredFields()) {
            if (!Modifier.isPrivate(f.getModifiers())) {
                got.add("static final " + f.getType() + " " + f.getName() + " = " + f.get(null) + ";");
            }
        }
        for (Method m : StampMap.class.getDeclaredMethods()) {
            if (!Modifier.isPrivate(m.getModifiers()) && !m.isSynthetic()) {
                check(m + " is public alone", m.getModifiers() == Modifier.PUBLIC);
                got.add(m.getReturnType() + " " + m.getName() + "(" + names(m.getParameterTypes()) + ");");
            }
        }
        check("public and final", StampMap.class.getModifiers() == (Modifier.PUBLIC | Modifier.FINAL));
        for (String member : due) {
            check("there is " + member, got.contains(member));
        }
        for (String member : got) {
            check("the document has " + member, due.contains(member));
        }
        System.out.println(wrong == 0 ? "the face is that of the document" : wrong + " things are wrong with the face");
        if (wrong != 0) {
            System.exit(1);
        }
    }

    private static String names(Class<?>[] types) {
        StringBuilder all = new StringBuilder();
        for (Class<?> type : types) {
            all.append(all.length() == 0 ? "" : ", ").append(type.getName());
        }
        return all.toString();
    }

    private static void check(String what, boolean holds) {
        if (!holds) {
            wrong++;
            System.out.println("not so: " + what);
        }
    }
}
