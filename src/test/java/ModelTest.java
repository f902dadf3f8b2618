import java.lang.reflect.Method;
import java.util.Arrays;
import java.util.List;
import java.util.Map;
import java.util.Random;
import java.util.Set;
import java.util.TreeMap;
import java.util.TreeSet;

/**
 * All promises together: random runs of calls on the class and on the document written out a second time (Model), each
 * answer held against the other. Each call must have told, over all runs, just the findings that its promise names.
 */
public final class ModelTest {
    private static final int RUNS = 800;
    /** With a text and what is asked at the end of a run an object is asked fewer than 512 times. */
    private static final int CALLS = 390;
    /** The calls, and the findings that each may tell. */
    private static final Map<String, List<Integer>> FACE = face();
    private static final int[] FAR = {Integer.MIN_VALUE, Integer.MAX_VALUE, -1000000001, 1 << 16, -1, -2};
    private static final String[] NAMES = {"letter", "capital", "soft", "crossed", "underlined", "icy"};
    private static final Due due = new Due();
    private static final Map<String, Set<Integer>> told = new TreeMap<>();
    private static final Map<String, Integer> answered = new TreeMap<>();

    private final SnowLetters x = new SnowLetters();
    private final Model model = new Model();
    private final Random random;
    private final int seed;
    private int calls = 0;

    private ModelTest(int seed) {
        this.seed = seed;
        random = new Random(seed);
    }

    private static Map<String, List<Integer>> face() {
        Map<String, List<Integer>> face = new TreeMap<>();
        int b = Due.BEYOND;
        for (String name : "odd pieces lines strays ways turned sign form of set turn sun now kind".split(" ")) {
            face.put(name, List.of(b));
        }
        for (String name : "best worth meant count status".split(" ")) {
            face.put(name, List.of(b));
        }
        for (String name : "ith again read doubts cheap".split(" ")) {
            face.put(name, List.of(b, Due.NONE));
        }
        for (String name : "stay wipe field image tear".split(" ")) {
            face.put(name, List.of());
        }
        for (String name : "lays show walk write".split(" ")) {
            face.put(name, List.of(b, Due.MISSING));
        }
        for (String name : "apart undo".split(" ")) {
            face.put(name, List.of(Due.NONE));
        }
        for (String name : "letter feed".split(" ")) {
            face.put(name, List.of(b, Due.FULL));
        }
        for (String name : "hours on".split(" ")) {
            face.put(name, List.of(b, Due.STATE));
        }
        face.put("forge", List.of(b, Due.STATE, Due.NONE));
        face.put("when", List.of(b, Due.STATE, Due.NONE));
        face.put("as", List.of(b, Due.KIND));
        face.put("sheet", List.of(b, Due.SIZE));
        face.put("copy", List.of(b, Due.MISSING, Due.KIND));
        return face;
    }

    static List<Integer> findingsOf(String name) {
        return FACE.getOrDefault(name, List.of());
    }

    public static void main(String[] args) throws Exception {
        due.is("calls of the face", FACE.size(), 44);
        for (int seed = 0; seed < RUNS; seed++) {
            new ModelTest(seed).run();
        }
        for (String name : FACE.keySet()) {
            Set<Integer> want = new TreeSet<>(FACE.get(name));
            Set<Integer> got = told.getOrDefault(name, Set.of());
            due.is(name + " told the findings " + got + " of " + want, got.equals(want) ? 1 : 0, 1);
            due.is(name + " answered without one", answered.getOrDefault(name, 0) > 20 ? 1 : 0, 1);
        }
        due.end("ModelTest");
    }

    private void run() throws Exception {
        String[] names = FACE.keySet().toArray(new String[0]);
        // Some runs have few SIGNS and LETTERS, some begin with many.
        for (int i = random.nextInt(4) * random.nextInt(12); i > 0; i--) {
            ask("sign", sign(), form());
            ask("letter", upTo(5), form());
        }
        for (int i = random.nextInt(3) * random.nextInt(6); i > 0; i--) {
            ask("hours", 99);
        }
        while (calls < CALLS) {
            if (random.nextInt(25) == 0) {
                tell();
            }
            String name = names[random.nextInt(names.length)];
            ask(name, arguments(name));
        }
        sweep();
        due.is("seed " + seed + ": calls of one object", Math.max(calls, 512), 512);
    }

    /** What there is at the end of a run. */
    private void sweep() throws Exception {
        for (int i = 0; i < 26; i++) {
            ask("form", i);
        }
        for (int i = model.count(0) - 1; i >= 0; i--) {
            ask("of", i, 0);
            ask("of", i, 1);
            ask("of", i, 2);
        }
        for (int i = 0; i < 4; i++) {
            ask("count", i);
            ask("now", i);
        }
        for (int i = -1; i < 7; i++) {
            ask("status", i);
        }
    }

    private void ask(String name, long... values) throws Exception {
        Method method = null;
        for (Method m : SnowLetters.class.getMethods()) {
            if (m.getName().equals(name) && m.getDeclaringClass() == SnowLetters.class) {
                method = m;
            }
        }
        Class<?>[] types = method.getParameterTypes();
        Object[] given = new Object[types.length];
        for (int i = 0; i < types.length; i++) {
            given[i] = types[i] == long.class ? (Object) values[i] : (Object) (int) values[i];
        }
        calls++;
        long got = ((Number) method.invoke(x, given)).longValue();
        int findings = model.status(-1);
        long want = ((Number) Model.class.getDeclaredMethod(name, types).invoke(model, given)).longValue();
        due.is("seed " + seed + ": " + name + Arrays.toString(given), got, want);
        if (model.status(-1) > findings) {
            told.computeIfAbsent(name, k -> new TreeSet<>()).add((int) want);
        } else {
            answered.merge(name, 1, Integer::sum);
        }
    }

    /** A text that may be, or nearly, comes to an empty tape. */
    private void tell() throws Exception {
        StringBuilder text = new StringBuilder(item());
        for (int i = random.nextInt(4) == 0 ? 12 : upTo(4); i > 0; i--) {
            text.append(random.nextBoolean() ? ";" : " ; ").append(item());
        }
        if (random.nextInt(3) == 0) {
            int place = random.nextInt(text.length());
            String[] others = {"", " ", ";", "9", "a", "#", "deep 3", "sun", "0", Character.toString((char) 255)};
            text.replace(place, place + random.nextInt(3) % (text.length() - place + 1),
                others[random.nextInt(others.length)]);
        }
        text.setLength(Math.min(text.length(), 60 + random.nextInt(70)));
        ask("wipe");
        for (int place = 0; place < text.length();) {
            int n = Math.min(4, text.length() - place);
            int number = random.nextInt();
            for (int i = 0; i < n; i++) {
                number = number << 8 | text.charAt(place + i) & 255;
            }
            ask("feed", number, n);
            place += n;
        }
        ask("field");
    }

    private String item() {
        switch (random.nextInt(4)) {
            case 0:
                return "sun " + form();
            case 1:
                return "sign " + near(0, 25) + " " + form();
            default:
                String how = random.nextBoolean() ? " form " + form() : " as " + near(0, 25);
                String deep = random.nextBoolean() ? "" : " deep " + near(0, 99);
                return NAMES[random.nextInt(6)] + how + deep;
        }
    }

    private long[] arguments(String name) {
        switch (name) {
            case "odd", "pieces", "lines", "strays", "again", "read", "doubts", "sun":
                return new long[] {form()};
            case "ways":
                return new long[] {form(), near(0, 8)};
            case "ith":
                return new long[] {form(), near(0, 8), near(0, 11)};
            case "turned":
                return new long[] {form(), near(0, 3)};
            case "sign":
                return new long[] {sign(), form()};
            case "form":
                return new long[] {sign()};
            case "forge":
                return new long[] {sign(), sign()};
            case "letter":
                return new long[] {near(0, 5), form()};
            case "of":
                return new long[] {letter(), near(0, 7)};
            case "set":
                return random.nextBoolean() ? new long[] {letter(), 1, form()}
                    : new long[] {letter(), near(1, 2), near(0, 99)};
            case "turn", "as":
                return new long[] {letter(), near(0, 5)};
            case "hours":
                return new long[] {random.nextInt(3) == 0 ? near(1, 99) : 1 + upTo(9)};
            case "on":
                return new long[] {letter(), near(0, 99)};
            case "when", "kind", "meant":
                return new long[] {letter()};
            case "cheap":
                return new long[] {near(0, 5)};
            case "best", "worth":
                return new long[] {random.nextInt(4) == 0 ? near(0, 9999) : upTo(120)};
            case "now", "count":
                return new long[] {near(0, 3)};
            case "status":
                return new long[] {near(-1, 6)};
            default:
                return argumentsOfTheTextAndSheets(name);
        }
    }

    private long[] argumentsOfTheTextAndSheets(String name) {
        switch (name) {
            case "feed":
                return new long[] {random.nextInt(), near(1, 4)};
            case "sheet":
                int[] bits = {0, 8, 8, 16, 16, 64, 32};
                return new long[] {near(0, 3), bits[random.nextInt(bits.length)], near(0, 40)};
            case "write":
                return new long[] {near(0, 3), upTo(random.nextBoolean() ? 40 : 4), number()};
            case "copy":
                return new long[] {near(0, 3), near(0, 12), near(0, 3), near(0, 12), near(0, 12)};
            case "lays", "show":
                return new long[] {near(0, 3)};
            case "walk":
                return new long[] {near(0, 3), form()};
            default:
                return new long[0];
        }
    }

    private int upTo(int most) {
        return random.nextInt(most + 1);
    }

    /** Mostly between these, now and then just outside of them or far off. */
    private int near(int least, int most) {
        switch (random.nextInt(30)) {
            case 0:
                return least - 1;
            case 1:
                return most + 1;
            case 2:
                return FAR[random.nextInt(FAR.length)];
            case 3:
                return most;
            default:
                return least + random.nextInt(most - least + 1);
        }
    }

    /** With few STROKES, with most of them, or any. */
    private int form() {
        switch (random.nextInt(4)) {
            case 0:
                return near(0, 4095);
            case 1:
                return 1 << random.nextInt(12) | 1 << random.nextInt(12);
            case 2:
                return 4095 & ~(1 << random.nextInt(12) | 1 << random.nextInt(12));
            default:
                return random.nextInt(4096) & random.nextInt(4096);
        }
    }

    private int sign() {
        return random.nextBoolean() ? near(0, 25) : upTo(4);
    }

    private int letter() {
        int size = model.count(0);
        return random.nextInt(12) == 0 || size == 0 ? near(0, 12) : random.nextInt(size);
    }

    private long number() {
        switch (random.nextInt(4)) {
            case 0:
                return random.nextLong();
            case 1:
                return form();
            default:
                return upTo(9);
        }
    }
}
