import java.lang.reflect.Constructor;
import java.lang.reflect.Field;
import java.lang.reflect.Method;
import java.lang.reflect.Modifier;
import java.nio.file.Files;
import java.nio.file.Path;
import java.util.Arrays;
import java.util.List;
import java.util.Set;
import java.util.TreeSet;
import java.util.regex.Matcher;
import java.util.regex.Pattern;

/** The public face as the document tells it, and the rules of LANGUAGE.md that a look at the text can find broken. */
public final class FaceTest {
    private static final Path SOURCE = Path.of("src/main/java/SnowLetters.java");
    private static final Path DOCUMENT = Path.of("../shared/DOC.md");
    private static final Due due = new Due();

    public static void main(String[] args) throws Exception {
        face();
        language();
        sizes();
        due.end("FaceTest");
    }

    private static void face() throws Exception {
        due.is("public and final", SnowLetters.class.getModifiers(), Modifier.PUBLIC | Modifier.FINAL);
        due.is("constructors", SnowLetters.class.getDeclaredConstructors().length, 1);
        Constructor<?> made = SnowLetters.class.getDeclaredConstructor();
        due.is("public constructor", made.getModifiers(), Modifier.PUBLIC);
        Set<String> names = new TreeSet<>();
        Set<String> publics = new TreeSet<>();
        for (Method m : SnowLetters.class.getDeclaredMethods()) {
            if (Modifier.isPublic(m.getModifiers())) {
                names.add(m.getName());
                publics.add(m.getReturnType() + " " + m.getName() + Arrays.toString(m.getParameterTypes()));
            } else {
                due.is(m + " is private", m.getModifiers() & Modifier.PRIVATE, Modifier.PRIVATE);
            }
        }
        due.is("the document's methods", publics.equals(documented()) ? 1 : 0, 1);
        for (Field f : SnowLetters.class.getDeclaredFields()) {
            due.is(f + " is private", f.getModifiers() & Modifier.PRIVATE, Modifier.PRIVATE);
        }
        for (Method m : SnowLetters.class.getDeclaredMethods()) {
            boolean isTwice = !Modifier.isPublic(m.getModifiers()) && names.contains(m.getName());
            due.is(m + " bears a public name", isTwice ? 1 : 0, 0);
        }
        for (Class<?> c : SnowLetters.class.getDeclaredClasses()) {
            due.is(c + " is static", c.getModifiers() & Modifier.STATIC, Modifier.STATIC);
            for (Method m : c.getDeclaredMethods()) {
                due.is(m + " bears a public name", names.contains(m.getName()) ? 1 : 0, 0);
                due.is(m + " takes at most seven", Math.max(7, m.getParameterCount()), 7);
            }
        }
        due.is("at most twelve classes", Math.max(11, SnowLetters.class.getDeclaredClasses().length), 11);
    }

    private static Set<String> documented() throws Exception {
        Set<String> methods = new TreeSet<>();
        Pattern line = Pattern.compile("^    public (int|long) (\\w+)\\((.*)\\);$", Pattern.MULTILINE);
        Matcher m = line.matcher(Files.readString(DOCUMENT));
        while (m.find()) {
            List<String> types = m.group(3).isEmpty() ? List.of()
                : Arrays.stream(m.group(3).split(", ")).map(p -> p.split(" ")[0]).toList();
            methods.add(m.group(1) + " " + m.group(2) + types);
        }
        due.is("methods in the document", methods.size(), 44);
        return methods;
    }

    private static void language() throws Exception {
        String text = Files.readString(SOURCE);
        due.is("plain signs alone", text.chars().filter(c -> c > 126 || c < 32 && c != '\n').count(), 0);
        String code = text.replaceAll("(?s)/\\*.*?\\*/", "").replaceAll("//.*", "").replaceAll("\"[^\"]*\"", "\"\"");
        String[] words = {"throw", "throws", "try", "catch", "synchronized", "assert", "import", "package", "var",
            "Exception", "Object", "hashCode", "toString", "native", "volatile", "transient", "protected", "Thread"};
        for (String word : words) {
            due.is("the word " + word, Pattern.compile("\\b" + word + "\\b").matcher(code).find() ? 1 : 0, 0);
        }
        for (String sign : new String[] {"->", "::", "Exact", "@"}) {
            due.is("the sign " + sign, code.contains(sign) ? 1 : 0, 0);
        }
        Matcher calls = Pattern.compile("\\b(Math|Integer|Long|System|Arrays|String)\\.(\\w+)").matcher(code);
        Set<String> allowed = Set.of("Math.max", "Math.min", "Integer.bitCount", "Integer.numberOfTrailingZeros",
            "System.arraycopy");
        while (calls.find()) {
            due.is("the library's " + calls.group(), allowed.contains(calls.group()) ? 1 : 0, 1);
        }
        Matcher statics = Pattern.compile("\\bstatic (?!final|boolean \\w+\\(|int \\w+\\(|long \\w+\\(|String \\w+\\()")
            .matcher(code);
        due.is("a static field that isn't final", statics.find() ? 1 : 0, 0);
    }

    /** Rule 11: short methods, few fields. */
    private static void sizes() throws Exception {
        List<String> lines = Files.readAllLines(SOURCE);
        Pattern head = Pattern.compile("^( {4}(?: {4})?)(?! )(?!if|for|while|switch)[\\w \\[\\]]+\\(.*\\) \\{$");
        int methods = 0;
        for (int i = 0; i < lines.size(); i++) {
            Matcher m = head.matcher(lines.get(i));
            if (m.matches()) {
                int end = i;
                while (!lines.get(end).equals(m.group(1) + "}")) {
                    end++;
                }
                due.is(lines.get(i).trim() + " stays short", Math.max(60, end - i + 1), 60);
                methods++;
            }
        }
        due.is("methods were found", methods > 100 ? 1 : 0, 1);
        fields(SnowLetters.class);
        for (Class<?> c : SnowLetters.class.getDeclaredClasses()) {
            fields(c);
        }
    }

    private static void fields(Class<?> c) {
        long fields = Arrays.stream(c.getDeclaredFields()).filter(f -> !Modifier.isStatic(f.getModifiers())).count();
        due.is(c + " has few fields", Math.max(20, fields), 20);
        for (Field f : c.getDeclaredFields()) {
            boolean isConstant = !Modifier.isStatic(f.getModifiers()) || Modifier.isFinal(f.getModifiers());
            due.is(f + " is final, if static", isConstant ? 1 : 0, 1);
        }
    }
}
