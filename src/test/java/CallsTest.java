import java.io.PrintWriter;
import java.io.StringWriter;
import java.net.URI;
import java.nio.file.Files;
import java.nio.file.Path;
import java.util.ArrayList;
import java.util.List;
import java.util.Map;
import java.util.Optional;
import java.util.Set;
import java.util.TreeMap;
import java.util.TreeSet;
import java.util.regex.Matcher;
import java.util.regex.Pattern;
import java.util.spi.ToolProvider;
import java.util.stream.Collectors;
import java.util.stream.Stream;

/**
 * Rules 4, 8, 11 and 12 of LANGUAGE.md as the compiled class shows them: which methods of the library are called,
 * which methods call themselves, how deep calls go, and where objects are made.
 */
public final class CallsTest {
    private static final int DEEPEST = 8;
    private static final Pattern HEAD = Pattern.compile("  (?:[^ ]+ )*([A-Za-z$]+)\\(.*\\);");
    private static final Pattern CALL = Pattern.compile("\\binvoke[a-z]+ .*// (?:Interface)?Method ([^:]+):.*");
    private static final Pattern MAKE = Pattern.compile(".*: (?:new|newarray|anewarray|multianewarray) .*");
    private static final Set<String> LIBRARY = Set.of("java/lang/Object.<init>", "java/lang/String.length",
            "java/lang/String.charAt", "java/lang/String.indexOf", "java/lang/Math.max", "java/lang/Math.min",
            "java/lang/Math.floorMod", "java/lang/System.arraycopy", "java/util/Arrays.copyOf");
    /** An E in ( ) is worked out by the methods that work out the E about it; they carry the depth. */
    private static final Set<String> RECURSION =
            Set.of("TimeIndex$Teller.total", "TimeIndex$Teller.product", "TimeIndex$Teller.unit");
    /** Rows that grow; all else is made by constructors. */
    private static final Set<String> MAKERS = Set.of("TimeIndex$Row.fill", "TimeIndex$Row.copyFrom");

    private final Map<String, Set<String>> calls = new TreeMap<>();
    private final Set<String> makers = new TreeSet<>();

    public static void main(String[] args) throws Exception {
        Optional<ToolProvider> javap = ToolProvider.findFirst("javap");
        if (javap.isEmpty()) {
            System.out.println("this JDK has no javap: calls are not looked at");
            return;
        }
        CallsTest test = new CallsTest();
        for (Path file : classFiles()) {
            test.look(file, javap.get());
        }
        test.library();
        test.recursion();
        test.depth();
        Check.due("rule 12: what makes objects " + test.makers, MAKERS.containsAll(test.makers), true);
        Check.finish();
    }

    private static List<Path> classFiles() throws Exception {
        URI place = TimeIndex.class.getProtectionDomain().getCodeSource().getLocation().toURI();
        try (Stream<Path> files = Files.list(Path.of(place))) {
            return files.filter(f -> f.getFileName().toString().matches("TimeIndex(\\$.*)?\\.class"))
                    .collect(Collectors.toList());
        }
    }

    private void look(Path file, ToolProvider javap) {
        StringWriter text = new StringWriter();
        PrintWriter out = new PrintWriter(text);
        Check.due("javap of " + file, javap.run(out, out, "-p", "-c", file.toString()), 0);
        String owner = file.getFileName().toString().replace(".class", "");
        String method = "";
        for (String line : text.toString().split("\\R")) {
            Matcher head = HEAD.matcher(line);
            Matcher call = CALL.matcher(line);
            if (head.matches()) {
                method = owner + "." + (head.group(1).equals(owner) ? "<init>" : head.group(1));
                calls.computeIfAbsent(method, m -> new TreeSet<>());
            } else if (call.find()) {
                String to = call.group(1).replace("\"", "");
                calls.get(method).add(to.contains(".") ? to : owner + "." + to);
            } else if (MAKE.matcher(line).matches() && !method.endsWith("<init>")) {
                makers.add(method);
            }
        }
    }

    private void library() {
        for (Map.Entry<String, Set<String>> from : calls.entrySet()) {
            for (String to : from.getValue()) {
                boolean own = calls.containsKey(to);
                Check.due("rule 4: " + from.getKey() + " calls " + to, own || LIBRARY.contains(to), true);
            }
        }
    }

    private void recursion() {
        for (String method : calls.keySet()) {
            Set<String> below = new TreeSet<>();
            gather(method, below);
            boolean callsItself = below.contains(method);
            Check.due("rule 8: recursion of " + method, callsItself && !RECURSION.contains(method), false);
        }
    }

    private void gather(String method, Set<String> below) {
        for (String to : calls.getOrDefault(method, Set.of())) {
            if (below.add(to)) {
                gather(to, below);
            }
        }
    }

    private void depth() {
        Check.due("the face's calls are found", calls.containsKey("TimeIndex.read"), true);
        for (String method : calls.keySet()) {
            if (method.startsWith("TimeIndex.")) {
                List<String> chain = deepest(method, new TreeSet<>(Set.of(method)));
                Check.due("rule 11: " + String.join(" > ", chain), chain.size() <= DEEPEST, true);
            }
        }
    }

    /** The longest chain of calls in which no method comes twice; the library's methods are not counted. */
    private List<String> deepest(String method, Set<String> open) {
        List<String> best = List.of();
        for (String to : calls.get(method)) {
            if (calls.containsKey(to) && open.add(to)) {
                List<String> chain = deepest(to, open);
                best = chain.size() > best.size() ? chain : best;
                open.remove(to);
            }
        }
        List<String> whole = new ArrayList<>(List.of(method));
        whole.addAll(best);
        return whole;
    }
}
