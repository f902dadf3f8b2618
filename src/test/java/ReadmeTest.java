import java.lang.reflect.Field;
import java.lang.reflect.Method;
import java.nio.file.Files;
import java.nio.file.Path;
import java.util.Set;
import java.util.TreeSet;
import java.util.regex.Matcher;
import java.util.regex.Pattern;
import java.util.stream.Stream;

/** README.md says what is so: each call of its examples answers as it says, and its lists lack nothing. */
public final class ReadmeTest {
    private static final String[] FINDINGS = {"BEYOND", "FULL", "KIND", "NONE", "STATE", "MISSING", "SIZE"};
    private static final Due due = new Due();

    public static void main(String[] args) throws Exception {
        String text = Files.readString(Path.of("README.md"));
        examples(text);
        findings(text);
        calls(text);
        tests(text);
        due.end("ReadmeTest");
    }

    private static void examples(String text) throws Exception {
        Matcher line = Pattern.compile("^(?:(SnowLetters x = new SnowLetters\\(\\);)|x\\.(.*))$", Pattern.MULTILINE)
            .matcher(text);
        Pattern call = Pattern.compile("(\\w+)\\(([-0-9, ]*)\\); +// (-?\\d+)(: .*)?");
        SnowLetters x = null;
        int asked = 0;
        while (line.find()) {
            if (line.group(1) != null) {
                x = new SnowLetters();
                continue;
            }
            Matcher m = call.matcher(line.group(2));
            due.is("an answer stands behind x." + line.group(2), m.matches() ? 1 : 0, 1);
            if (m.matches()) {
                due.is("README: " + m.group(), answer(x, m.group(1), m.group(2)), Long.parseLong(m.group(3)));
                asked++;
            }
        }
        due.is("README has examples", asked > 20 ? 1 : 0, 1);
    }

    private static Method method(String name) {
        for (Method m : SnowLetters.class.getMethods()) {
            if (m.getDeclaringClass() == SnowLetters.class && m.getName().equals(name)) {
                return m;
            }
        }
        throw new IllegalStateException("README has a call that isn't: " + name);
    }

    private static long answer(SnowLetters x, String name, String values) throws Exception {
        Method m = method(name);
        String[] words = values.isEmpty() ? new String[0] : values.split(", ");
        Object[] given = new Object[words.length];
        for (int i = 0; i < given.length; i++) {
            long v = Long.parseLong(words[i]);
            given[i] = m.getParameterTypes()[i] == long.class ? (Object) v : (Object) (int) v;
        }
        return ((Number) m.invoke(x, given)).longValue();
    }

    private static void findings(String text) throws Exception {
        for (String name : FINDINGS) {
            Field field = Due.class.getDeclaredField(name);
            int code = field.getInt(null);
            String row = "| " + name + " | " + code + " | " + (Due.BEYOND - code) + " |";
            due.is("README tells " + row, text.contains(row) ? 1 : 0, 1);
        }
    }

    /** Each call of the face has a row, with the findings that ModelTest has seen it tell. */
    private static void calls(String text) {
        for (Method m : SnowLetters.class.getMethods()) {
            if (m.getDeclaringClass() != SnowLetters.class) {
                continue;
            }
            Matcher row = Pattern.compile("^\\| `" + m.getName() + "\\(([^)]*)\\)` \\| .* \\| ?(.*?) ?\\|$",
                Pattern.MULTILINE).matcher(text);
            due.is("README tells of " + m.getName(), row.find() ? 1 : 0, 1);
            int count = row.group(1).isEmpty() ? 0 : row.group(1).split(", ").length;
            due.is("README: arguments of " + m.getName(), count, m.getParameterCount());
            Set<String> want = new TreeSet<>();
            for (int code : ModelTest.findingsOf(m.getName())) {
                want.add(FINDINGS[Due.BEYOND - code]);
            }
            Set<String> told = new TreeSet<>(Set.of(row.group(2).isEmpty() ? new String[0] : row.group(2).split(", ")));
            due.is("README: findings of " + m.getName() + " " + told + ", due " + want, told.equals(want) ? 1 : 0, 1);
        }
    }

    private static void tests(String text) throws Exception {
        try (Stream<Path> files = Files.list(Path.of("src/test/java"))) {
            for (Path file : files.filter(f -> f.toString().endsWith("Test.java")).toList()) {
                String name = file.getFileName().toString().replace(".java", "");
                due.is("README tells of " + name, text.contains("| " + name + " |") ? 1 : 0, 1);
            }
        }
    }
}
