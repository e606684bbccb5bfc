import java.io.IOException;
import java.lang.reflect.Method;
import java.nio.file.Files;
import java.nio.file.Path;
import java.util.HashMap;
import java.util.Map;
import java.util.Set;
import java.util.TreeSet;
import java.util.regex.Matcher;
import java.util.regex.Pattern;
import java.util.stream.Collectors;
import java.util.stream.Stream;

/** README.md says what is so: its example, its items, its calls, its list of tests. */
public final class ReadmeTests {
    static int wrong = 0;

    static void check(boolean so, String what) {
        if (!so) {
            wrong++;
            System.out.println(what);
        }
    }

    static final Map<String, Method> CALLS = new HashMap<>();

    static {
        for (Method m : CrossedFirst.class.getDeclaredMethods()) {
            if (java.lang.reflect.Modifier.isPublic(m.getModifiers())) CALLS.put(m.getName(), m);
        }
    }

    static final Pattern ASKED = Pattern.compile("x\\.(\\w+)\\(([^)]*)\\); *// (-?\\w+).*");
    static final Pattern WRITTEN = Pattern.compile("for .*\"(.*)\"\\.toCharArray\\(\\)\\) x\\.write\\(c\\);");

    static int answer(String word) throws ReflectiveOperationException {
        return word.matches("[A-Z]+") ? CrossedFirst.class.getField(word).getInt(null)
                : Integer.parseInt(word);
    }

    /** Each line of the example is made, and what stands behind // first is the answer. */
    static void example(String page) throws ReflectiveOperationException {
        Matcher block = Pattern.compile("(?s)```java\n(.*?)```").matcher(page);
        check(block.find(), "there is an example");
        CrossedFirst x = new CrossedFirst();
        int asked = 0;
        for (String line : block.group(1).split("\n")) {
            Matcher ask = ASKED.matcher(line);
            Matcher write = WRITTEN.matcher(line);
            if (ask.matches()) {
                String[] words = ask.group(2).isEmpty() ? new String[0] : ask.group(2).split(", ");
                Object[] numbers = new Object[words.length];
                for (int k = 0; k < words.length; k++) numbers[k] = Integer.parseInt(words[k]);
                Object got = CALLS.get(ask.group(1)).invoke(x, numbers);
                check(got.equals(answer(ask.group(3))), line + " but it answered " + got);
                asked++;
            } else if (write.matches()) {
                for (char c : write.group(1).toCharArray()) x.write(c);
            } else {
                check(line.isEmpty() || line.startsWith("CrossedFirst x = new CrossedFirst();"),
                        "this line of the example was not tried: " + line);
            }
        }
        check(asked >= 10, "the example asks " + asked + " times");
    }

    /** The answers below 0 have the values that the page tells. */
    static void constants(String page) throws ReflectiveOperationException {
        Matcher told = Pattern.compile("(?m)^- `([A-Z]+)` \\((-\\d)\\): ").matcher(page);
        Set<String> names = new TreeSet<>();
        while (told.find()) {
            names.add(told.group(1));
            check(answer(told.group(1)) == Integer.parseInt(told.group(2)), told.group());
        }
        check(names.equals(Set.of("BAD", "NO", "FULL", "NONE")), "constants told are " + names);
    }

    /** The rows of a table begin with code: that of all rows whose code matches. */
    static Set<String> rows(String page, String form) {
        Set<String> found = new TreeSet<>();
        Matcher row = Pattern.compile("(?m)^\\| `(" + form + ")` \\| .+ \\|$").matcher(page);
        while (row.find()) check(found.add(row.group(1)), row.group(1) + " is told twice");
        return found;
    }

    static void calls(String page, String document) {
        Matcher face = Pattern.compile("public int (\\w+)\\(([^)]*)\\);").matcher(document);
        Set<String> due = new TreeSet<>();
        while (face.find()) due.add(face.group(1) + "(" + face.group(2).replace("int ", "") + ")");
        check(due.size() == CALLS.size(), "calls of the face: " + due.size());
        Set<String> told = rows(page, "\\w+\\([^)]*\\)");
        check(told.equals(due), "calls told are " + told + ", due are " + due);
    }

    static void items(String page, String document) {
        Set<String> due = new TreeSet<>();
        Matcher item = Pattern.compile(" ([bwcrasvy][A-Z](?:,[A-Z])*) (?=[a-zA-Z])").matcher(document);
        while (item.find()) due.add(item.group(1) + ";");
        check(due.size() == 8, "items of the document are " + due);
        Set<String> told = rows(page, "[a-z][A-Z](?:,[A-Z])*;");
        check(told.equals(due), "items told are " + told + ", due are " + due);
    }

    static void tests(String page) throws IOException {
        try (Stream<Path> files = Files.list(Path.of("src/test/java"))) {
            Set<String> due = files.map(Path::toString).collect(Collectors.toCollection(TreeSet::new));
            Set<String> told = new TreeSet<>();
            Matcher test = Pattern.compile("(?m)^- `(src/test/java/\\w+\\.java)`: ").matcher(page);
            while (test.find()) told.add(test.group(1));
            check(told.equals(due), "tests told are " + told + ", there are " + due);
        }
        check(page.contains(".ci/run") && Files.isExecutable(Path.of(".ci/run")), ".ci/run is told");
    }

    public static void main(String[] args) throws Exception {
        String page = Files.readString(Path.of("README.md"));
        String document = Files.readString(Path.of("../shared/DOC.md"));
        example(page);
        constants(page);
        calls(page, document);
        items(page, document);
        tests(page);
        System.out.println(wrong == 0 ? "the page is as due" : wrong + " faults of the page");
        if (wrong != 0) System.exit(1);
    }
}
