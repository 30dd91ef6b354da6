import java.lang.reflect.Constructor;
import java.lang.reflect.Field;
import java.lang.reflect.Method;
import java.lang.reflect.Modifier;
import java.nio.file.Files;
import java.nio.file.Path;
import java.util.ArrayList;
import java.util.Arrays;
import java.util.List;
import java.util.Set;
import java.util.TreeSet;
import java.util.regex.Matcher;
import java.util.regex.Pattern;

/** Rules of LANGUAGE.md and the document's face, as far as the source and the compiled class show them. */
public final class LanguageTest {
    private static final String FACE = "feed/5 back/1 read/0 place/0 put/2 cut/1 has/2 value/2 since/2 many/3 sum/3 "
            + "nth/2 next/2 prior/2 differ/4 ever/4 stay/3 versions/1 version/3 peak/3 root/1 deep/1 leaf/2 reads/3 "
            + "thin/1 way/3 longest/2 busiest/3 gap/2 held/2 page/2 entry/3 room/1 hold/1 restore/1 count/1";

    public static void main(String[] args) throws Exception {
        face();
        for (Class<?> c : classes()) {
            members(c);
        }
        Check.due("rule 11: classes", classes().size() <= 12, true);
        source(Files.readString(Path.of("src/main/java/TimeIndex.java")));
        Check.finish();
    }

    private static List<Class<?>> classes() {
        List<Class<?>> all = new ArrayList<>(Arrays.asList(TimeIndex.class.getDeclaredClasses()));
        all.add(TimeIndex.class);
        return all;
    }

    private static void face() throws Exception {
        Check.due("NONE", TimeIndex.NONE, -1);
        Check.due("rule 1: final", Modifier.isFinal(TimeIndex.class.getModifiers()), true);
        Check.due("rule 1: public", Modifier.isPublic(TimeIndex.class.getModifiers()), true);
        Set<String> found = new TreeSet<>();
        for (Method m : TimeIndex.class.getDeclaredMethods()) {
            if (!Modifier.isPrivate(m.getModifiers())) {
                found.add(m.getName() + "/" + m.getParameterCount());
                boolean isBoolean = m.getName().equals("hold") || m.getName().equals("restore");
                Check.due("result of " + m, m.getReturnType() == (isBoolean ? boolean.class : int.class), true);
                Check.due("public " + m, m.getModifiers() == Modifier.PUBLIC, true);
            }
        }
        Check.due("the face: " + found, found.equals(new TreeSet<>(List.of(FACE.split(" ")))), true);
        for (Field f : TimeIndex.class.getDeclaredFields()) {
            boolean mayBeSeen = f.getName().equals("NONE");
            Check.due("rule 1: field " + f, Modifier.isPrivate(f.getModifiers()) != mayBeSeen, true);
        }
        Constructor<?>[] made = TimeIndex.class.getDeclaredConstructors();
        Check.due("constructors", made.length, 1);
        Check.due("of no parameters", made[0].getParameterCount(), 0);
    }

    private static void members(Class<?> c) {
        Set<String> names = new TreeSet<>();
        for (String m : FACE.split(" ")) {
            names.add(m.substring(0, m.indexOf('/')));
        }
        if (c != TimeIndex.class) {
            Check.due("rule 2: static " + c, Modifier.isStatic(c.getModifiers()), true);
        }
        for (Method m : c.getDeclaredMethods()) {
            boolean bearsPublicName = names.contains(m.getName());
            Check.due("rule 1: name of " + m, bearsPublicName && c != TimeIndex.class, false);
            Check.due("rule 11: parameters of " + m, m.getParameterCount() <= 7, true);
        }
        int fields = 0;
        for (Field f : c.getDeclaredFields()) {
            if (Modifier.isStatic(f.getModifiers())) {
                Check.due("rule 5: " + f, Modifier.isFinal(f.getModifiers()), true);
            } else {
                fields++;
            }
        }
        Check.due("rule 11: fields of " + c, fields <= 20, true);
    }

    private static void source(String whole) {
        String code = whole.replaceAll("(?s)/\\*.*?\\*/", " ").replaceAll("\"[^\"\n]*\"", "\"\"")
                .replaceAll("//[^\n]*", " ");
        String[] banned = {"throw", "throws", "try", "catch", "finally", "synchronized", "assert", "goto", "volatile",
            "native", "transient", "protected", "equals", "hashCode", "toString", "System", "Thread", "Random",
            "var", "record", "sealed", "instanceof", "package"};
        for (String word : banned) {
            String without = code.replace("System.arraycopy", "");
            boolean stands = Pattern.compile("\\b" + word + "\\b").matcher(without).find();
            Check.due("rules 4, 6 and 13: " + word, stands, false);
        }
        Check.due("rule 2: no lambda", code.contains("->"), false);
        Check.due("rule 2: no method reference", code.contains("::"), false);
        Check.due("rule 4: no name that ends in Exact", code.contains("Exact"), false);
        Matcher imports = Pattern.compile("import ([^;]*);").matcher(code);
        while (imports.find()) {
            Check.due("rule 4: " + imports.group(1), imports.group(1).equals("java.util.Arrays"), true);
        }
        methodLengths(whole);
    }

    /** A method ends at the first } that stands as far in as it began. */
    private static void methodLengths(String whole) {
        String[] lines = whole.split("\n");
        Pattern head = Pattern.compile("( {4,8})[a-zA-Z\\[\\] ]+\\([^;]*\\) \\{");
        for (int n = 0; n < lines.length; n++) {
            Matcher m = head.matcher(lines[n]);
            if (m.matches() && !lines[n].contains("class ")) {
                int end = n;
                while (!lines[end].equals(m.group(1) + "}")) {
                    end++;
                }
                Check.due("rule 11: lines of " + lines[n].trim(), end - n + 1 <= 60, true);
            }
        }
    }
}
