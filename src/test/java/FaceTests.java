import java.io.IOException;
import java.lang.reflect.Constructor;
import java.lang.reflect.Field;
import java.lang.reflect.Method;
import java.lang.reflect.Modifier;
import java.nio.file.Files;
import java.nio.file.Path;
import java.util.Arrays;
import java.util.Set;
import java.util.TreeSet;
import java.util.regex.Matcher;
import java.util.regex.Pattern;

/** The class shows the document's face and nothing else, and keeps to rules that can be read off. */
public final class FaceTests {
    static int wrong = 0;

    static void check(boolean so, String what) {
        if (!so) {
            wrong++;
            System.out.println(what);
        }
    }

    static final String[] METHODS = {"write 1", "wipe 0", "fault 0", "lay 0", "beast 2", "current 1",
        "where 2", "lands 1", "rank 1", "who 1", "start 2", "ride 2", "leave 1", "undo 0", "late 1",
        "back 2", "twos 0", "bridge 1", "calm 1", "order 1", "harvest 1", "odds 4", "seen 2",
        "forget 0", "rides 1", "river 2", "keep 0", "restore 0", "count 1"};

    static void face() throws ReflectiveOperationException {
        Class<?> c = CrossedFirst.class;
        check(Modifier.isPublic(c.getModifiers()) && Modifier.isFinal(c.getModifiers()),
                "the class is public and final");
        Set<String> found = new TreeSet<>();
        Set<String> names = new TreeSet<>();
        for (Method m : c.getDeclaredMethods()) {
            if (Modifier.isPrivate(m.getModifiers()) || m.isSynthetic()) continue;
            check(Modifier.isPublic(m.getModifiers()) && !Modifier.isStatic(m.getModifiers())
                    && m.getReturnType() == int.class, "form of " + m);
            for (Class<?> p : m.getParameterTypes()) check(p == int.class, "parameter of " + m);
            found.add(m.getName() + " " + m.getParameterCount());
            names.add(m.getName());
        }
        Set<String> due = new TreeSet<>(Arrays.asList(METHODS));
        check(found.equals(due), "methods are " + found + ", due are " + due);
        for (Class<?> in : c.getDeclaredClasses()) {
            check(Modifier.isStatic(in.getModifiers()), in + " is static");
            for (Method m : in.getDeclaredMethods()) {
                check(!names.contains(m.getName()), m + " bears a public name");
            }
            check(in.getDeclaredFields().length <= 20, in + " has few fields");
        }
        check(c.getDeclaredClasses().length <= 11, "few classes");
        constants(c);
    }

    static void constants(Class<?> c) throws ReflectiveOperationException {
        Set<String> found = new TreeSet<>();
        for (Field f : c.getDeclaredFields()) {
            check(!Modifier.isStatic(f.getModifiers()) || Modifier.isFinal(f.getModifiers()),
                    f + " is final");
            if (Modifier.isPrivate(f.getModifiers())) continue;
            check(f.getModifiers() == (Modifier.PUBLIC | Modifier.STATIC | Modifier.FINAL)
                    && f.getType() == int.class, "form of " + f);
            found.add(f.getName() + " " + f.getInt(null));
        }
        check(found.equals(new TreeSet<>(Arrays.asList("BAD -1", "NO -2", "FULL -3", "NONE -4"))),
                "constants are " + found);
        Constructor<?>[] made = c.getDeclaredConstructors();
        check(made.length == 1 && made[0].getParameterCount() == 0
                && Modifier.isPublic(made[0].getModifiers()), "one public constructor");
    }

    /** What the interface says ahead of the calls, and the calls, stand in the document's order. */
    static void groups(String text) {
        String[] marks = {"write rivers", "start changes", "late what would be", "calm ranks",
            "odds floods, riders", "keep kept"};
        int at = 0;
        for (String method : METHODS) {
            String name = method.substring(0, method.indexOf(' '));
            for (String mark : marks) {
                if (mark.startsWith(name + " ")) {
                    int next = text.indexOf("// ---- " + mark.substring(name.length() + 1), at);
                    check(next >= 0, "what stands ahead of " + name);
                    at = Math.max(at, next);
                }
            }
            int next = text.indexOf("public int " + name + "(", at);
            check(next >= 0, "the place of " + name);
            at = Math.max(at, next);
        }
    }

    static void source() throws IOException {
        String text = Files.readString(Path.of("src/main/java/CrossedFirst.java"));
        groups(text);
        String code = text.replaceAll("(?s)/\\*.*?\\*/", "").replaceAll("//[^\n]*", "")
                .replaceAll("\"[^\"]*\"", "\"\"");
        Matcher m = Pattern.compile("\\b(throw|throws|try|catch|synchronized|assert|import|package"
                + "|Thread|Random|Exact|equals|hashCode|toString)\\b|->|::|\"\\s*\\+|\\+\\s*\"").matcher(code);
        while (m.find()) check(false, "the source has " + m.group());
        check(text.chars().allMatch(x -> x < 128), "signs of the source");
        int in = 0;
        int line = 0;
        for (String row : text.split("\n")) {
            line++;
            if (row.matches(" {4}( {4})?(public|private|static|final|int|void|boolean|[A-Z]).*\\) \\{")) in = line;
            if (row.matches(" {4}( {4})?\\}")) check(line - in <= 60, "long method at " + in);
        }
    }

    public static void main(String[] args) throws Exception {
        face();
        source();
        System.out.println(wrong == 0 ? "the face is as due" : wrong + " faults of the face");
        if (wrong != 0) System.exit(1);
    }
}
