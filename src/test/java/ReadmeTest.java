import java.io.IOException;
import java.lang.reflect.InvocationTargetException;
import java.lang.reflect.Method;
import java.nio.charset.StandardCharsets;
import java.nio.file.Files;
import java.nio.file.Path;
import java.util.Set;
import java.util.TreeSet;
import java.util.regex.Matcher;
import java.util.regex.Pattern;
import java.util.stream.Collectors;
import java.util.stream.Stream;

/** What README.md says is true: each line of its examples is called, and the names it gives are looked up. */
public final class ReadmeTest {
    private static final Pattern BLOCK = Pattern.compile("(?s)```java\n(.*?)```");
    private static final Pattern CALL =
            Pattern.compile("x\\.([a-z]+)\\(([^)]*)\\);\\s*// (-?[0-9]+|true|false)(?:: (.*))?");
    private static final Pattern NAME = Pattern.compile("`([A-Z][A-Za-z]*)`");

    private final Set<String> called = new TreeSet<>();
    private TimeIndex x;

    public static void main(String[] args) throws Exception {
        String readme = Files.readString(Path.of("README.md"));
        new ReadmeTest().examples(readme);
        names(readme);
        Check.due("how to run the tests", readme.contains("\n    .ci/run\n"), true);
        Check.due(".ci/run is executable", Files.isExecutable(Path.of(".ci/run")), true);
        Check.finish();
    }

    private void examples(String readme) throws Exception {
        Matcher blocks = BLOCK.matcher(readme);
        while (blocks.find()) {
            for (String line : blocks.group(1).split("\n")) {
                example(line);
            }
        }
        Set<String> face = new TreeSet<>();
        for (Method m : TimeIndex.class.getMethods()) {
            if (m.getDeclaringClass() == TimeIndex.class) {
                face.add(m.getName());
            }
        }
        Check.due("calls of the face that no example has: " + without(face, called), called.equals(face), true);
    }

    private void example(String line) throws Exception {
        if (line.startsWith("TimeIndex x = new TimeIndex();")) {
            x = new TimeIndex();
            return;
        }
        Matcher m = CALL.matcher(line);
        Check.due("a line of an example can be read: " + line, m.matches(), true);
        if (m.matches()) {
            Check.due("README: " + line, answer(m.group(1), m.group(2)).equals(m.group(3)), true);
            called.add(m.group(1));
            if (m.group(1).equals("feed")) {
                Check.due("README, the bytes of " + line, quoted(m.group(2)).equals(m.group(4)), true);
            }
        }
    }

    private String answer(String name, String arguments) throws InvocationTargetException, IllegalAccessException {
        Integer[] with = ints(arguments);
        for (Method m : TimeIndex.class.getMethods()) {
            if (m.getName().equals(name) && m.getParameterCount() == with.length) {
                return String.valueOf(m.invoke(x, (Object[]) with));
            }
        }
        return "no such call";
    }

    private static Integer[] ints(String arguments) {
        return arguments.isEmpty() ? new Integer[0]
                : Stream.of(arguments.split(", ")).map(Integer::decode).toArray(Integer[]::new);
    }

    private static String quoted(String arguments) {
        byte[] bytes = new byte[20];
        Integer[] words = ints(arguments);
        for (int n = 0; n < 20; n++) {
            bytes[n] = (byte) (words[n / 4] >>> 24 - n % 4 * 8);
        }
        return "\"" + new String(bytes, StandardCharsets.ISO_8859_1) + "\"";
    }

    /** Every class of the program and of the tests is named, and nothing else is. */
    private static void names(String readme) throws IOException {
        Set<String> named = new TreeSet<>();
        Matcher m = NAME.matcher(readme);
        while (m.find()) {
            named.add(m.group(1));
        }
        Set<String> there = new TreeSet<>();
        for (Class<?> c : TimeIndex.class.getDeclaredClasses()) {
            there.add(c.getSimpleName());
        }
        there.add("TimeIndex");
        try (Stream<Path> files = Files.list(Path.of("src/test/java"))) {
            there.addAll(files.map(f -> f.getFileName().toString().replace(".java", "")).collect(Collectors.toSet()));
        }
        Check.due("classes that README.md does not name: " + without(there, named), named.containsAll(there), true);
        Check.due("classes that there are not: " + without(named, there), there.containsAll(named), true);
    }

    private static Set<String> without(Set<String> all, Set<String> some) {
        Set<String> left = new TreeSet<>(all);
        left.removeAll(some);
        return left;
    }
}
