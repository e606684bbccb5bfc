import java.io.IOException;
import java.lang.reflect.Array;
import java.lang.reflect.Constructor;
import java.lang.reflect.Field;
import java.lang.reflect.Method;
import java.lang.reflect.Modifier;
import java.nio.file.Files;
import java.nio.file.Path;
import java.util.Arrays;
import java.util.Collections;
import java.util.IdentityHashMap;
import java.util.Set;
import java.util.TreeSet;
import java.util.regex.Matcher;
import java.util.regex.Pattern;

/** The class shows the document's face and nothing else, and keeps to rules that can be read off. */
public final class FaceTests {
    static int wrong = 0;

    static void check(boolean so, String what) {
        if (!so) {
            wrong++;
            System.out.println(what);
        }
    }

    static final String[] METHODS = {"write 1", "wipe 0", "fault 0", "lay 0", "beast 2", "current 1",
        "where 2", "lands 1", "rank 1", "who 1", "start 2", "ride 2", "leave 1", "undo 0", "late 1",
        "back 2", "twos 0", "bridge 1", "calm 1", "order 1", "harvest 1", "odds 4", "seen 2",
        "forget 0", "rides 1", "river 2", "keep 0", "restore 0", "count 1"};

    static void face() throws ReflectiveOperationException {
        Class<?> c = CrossedFirst.class;
        check(Modifier.isPublic(c.getModifiers()) && Modifier.isFinal(c.getModifiers()),
                "the class is public and final");
        Set<String> found = new TreeSet<>();
        Set<String> names = new TreeSet<>();
        for (Method m : c.getDeclaredMethods()) {
            if (Modifier.isPrivate(m.getModifiers()) || m.isSynthetic()) continue;
            check(Modifier.isPublic(m.getModifiers()) && !Modifier.isStatic(m.getModifiers())
                    && m.getReturnType() == int.class, "form of " + m);
            for (Class<?> p : m.getParameterTypes()) check(p == int.class, "parameter of " + m);
            found.add(m.getName() + " " + m.getParameterCount());
            names.add(m.getName());
        }
        Set<String> due = new TreeSet<>(Arrays.asList(METHODS));
        check(found.equals(due), "methods are " + found + ", due are " + due);
        for (Class<?> in : c.getDeclaredClasses()) {
            check(Modifier.isStatic(in.getModifiers()), in + " is static");
            for (Method m : in.getDeclaredMethods()) {
                check(!names.contains(m.getName()), m + " bears a public name");
            }
            check(in.getDeclaredFields().length <= 20, in + " has few fields");
        }
        check(c.getDeclaredClasses().length <= 11, "few classes");
        constants(c);
    }

    static void constants(Class<?> c) throws ReflectiveOperationException {
        Set<String> found = new TreeSet<>();
        for (Field f : c.getDeclaredFields()) {
            check(!Modifier.isStatic(f.getModifiers()) || Modifier.isFinal(f.getModifiers()),
                    f + " is final");
            if (Modifier.isPrivate(f.getModifiers())) continue;
            check(f.getModifiers() == (Modifier.PUBLIC | Modifier.STATIC | Modifier.FINAL)
                    && f.getType() == int.class, "form of " + f);
            found.add(f.getName() + " " + f.getInt(null));
        }
        check(found.equals(new TreeSet<>(Arrays.asList("BAD -1", "NO -2", "FULL -3", "NONE -4"))),
                "constants are " + found);
        Constructor<?>[] made = c.getDeclaredConstructors();
        check(made.length == 1 && made[0].getParameterCount() == 0
                && Modifier.isPublic(made[0].getModifiers()), "one public constructor");
    }

    /** What the interface says ahead of the calls, and the calls, stand in the document's order. */
    static void groups(String text) {
        String[] marks = {"write rivers", "start changes", "late what would be", "calm ranks",
            "odds floods, riders", "keep kept"};
        int at = 0;
        for (String method : METHODS) {
            String name = method.substring(0, method.indexOf(' '));
            for (String mark : marks) {
                if (mark.startsWith(name + " ")) {
                    int next = text.indexOf("// ---- " + mark.substring(name.length() + 1), at);
                    check(next >= 0, "what stands ahead of " + name);
                    at = Math.max(at, next);
                }
            }
            int next = text.indexOf("public int " + name + "(", at);
            check(next >= 0, "the place of " + name);
            at = Math.max(at, next);
        }
    }

    static void source() throws IOException {
        String text = Files.readString(Path.of("src/main/java/CrossedFirst.java"));
        groups(text);
        String code = text.replaceAll("(?s)/\\*.*?\\*/", "").replaceAll("//[^\n]*", "")
                .replaceAll("\"[^\"]*\"", "\"\"");
        Matcher m = Pattern.compile("\\b(throw|throws|try|catch|synchronized|assert|import|package"
                + "|Thread|Random|Exact|equals|hashCode|toString)\\b|->|::|\"\\s*\\+|\\+\\s*\"").matcher(code);
        while (m.find()) check(false, "the source has " + m.group());
        check(text.chars().allMatch(x -> x < 128), "signs of the source");
        makesNothing(code);
        int in = 0;
        int line = 0;
        for (String row : text.split("\n")) {
            line++;
            if (row.matches(" {4}( {4})?(public|private|static|final|int|void|boolean|[A-Z]).*\\) \\{")) in = line;
            if (row.matches(" {4}( {4})?\\}")) check(line - in <= 60, "long method at " + in);
        }
    }

    /** Where an object or array may be made: a field's initialiser, the constructor, what it calls. */
    static final Set<String> MAKERS = Set.of("CrossedFirst", "firstRiver");

    /** Behind the constructor nothing is made, so that no run of calls fills the room. */
    static void makesNothing(String code) {
        String in = "";
        for (String row : code.split("\n")) {
            Matcher method = Pattern.compile(
                    " {4}(?: {4})?(?:public |private |static )*(?:[\\w\\[\\]]+ )?(\\w+)\\(.*\\{").matcher(row);
            if (method.matches()) in = method.group(1);
            if (row.matches(" {4}( {4})?\\}")) in = "";
            boolean makes = Pattern.compile("\\bnew\\b|\\.clone\\(|\\.toCharArray\\(|\\bcopyOf"
                    + "|\\bsubstring\\(|\\bStringBuilder\\b|\\bList\\b|\\bvalues\\(").matcher(row).find();
            check(!makes || in.isEmpty() || MAKERS.contains(in), in + " makes something: " + row);
            boolean callsMaker = row.contains("firstRiver()") && !row.contains("River firstRiver()");
            check(!callsMaker || in.equals("CrossedFirst"), in + " makes a river: " + row);
        }
    }

    /** Objects and arrays that belong to one, and the fields and elements of these. */
    static int elements(Object one, Set<Object> met) throws ReflectiveOperationException {
        if (one == null || !met.add(one)) return 0;
        if (one.getClass().isArray()) {
            check(one.getClass().getComponentType().isPrimitive(), "an array of " + one.getClass());
            return Array.getLength(one);
        }
        int sum = 0;
        for (Field f : one.getClass().getDeclaredFields()) {
            if (Modifier.isStatic(f.getModifiers())) continue;
            f.setAccessible(true);
            sum += 1 + (f.getType().isPrimitive() ? 0 : elements(f.get(one), met));
        }
        return sum;
    }

    /** An object stays as small as it was made, whatever is asked of it. */
    static void room() throws ReflectiveOperationException {
        CrossedFirst x = new CrossedFirst();
        Set<Object> met = Collections.newSetFromMap(new IdentityHashMap<>());
        int first = elements(x, met);
        check(met.size() <= 100 && first <= 4000, met.size() + " objects, " + first + " elements");
        for (char c : "b5,1,0,0;b9,1,1,1;w20;c1,1;r1,0;".toCharArray()) x.write(c);
        for (int k = 0; k < 3; k++) {
            x.lay();
            for (int i = 0; i < 9; i++) {
                x.start(i % 2, i);
                x.ride(1, 0);
                x.seen(0, 1);
                x.keep();
                x.odds(0, 5, 5, 0);
                x.bridge(-1);
                x.order(1);
            }
            x.restore();
        }
        Set<Object> later = Collections.newSetFromMap(new IdentityHashMap<>());
        check(elements(x, later) == first && later.equals(met), "an object grows");
    }

    public static void main(String[] args) throws Exception {
        face();
        source();
        room();
        System.out.println(wrong == 0 ? "the face is as due" : wrong + " faults of the face");
        if (wrong != 0) System.exit(1);
    }
}
