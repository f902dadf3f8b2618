import java.lang.reflect.Method;
import java.lang.reflect.Modifier;
import java.util.ArrayList;
import java.util.Comparator;
import java.util.List;
import java.util.Random;

/**
 * Long runs of calls with all kinds of arguments: none throws; what answers a finding changes nothing but status();
 * status() counts just those; the same calls give the same answers.
 */
public final class RunsTest {
    private static final int[] ODD_ARGUMENTS = {
        Integer.MIN_VALUE, Integer.MIN_VALUE + 1, -1000000001, -4096, -2, -1, 9, 12, 25, 26, 31, 32, 33, 40, 41, 64,
        99, 100, 999, 4095, 4096, 9999, 10000, 65536, Integer.MAX_VALUE - 1, Integer.MAX_VALUE};
    private static final String[] TEXTS = {
        "sun 6;letter form 3", "sign 4 99;soft as 4 deep 3", "icy form 4095;underlined as 2", "sun 4096", "sign 2",
        "crossed as 1 deep 99;sign 0 5;sun 12", "capital form 48 deep", ""};
    private static final Due due = new Due();

    public static void main(String[] args) throws Exception {
        List<Method> face = new ArrayList<>();
        for (Method m : SnowLetters.class.getDeclaredMethods()) {
            if (Modifier.isPublic(m.getModifiers())) {
                face.add(m);
            }
        }
        face.sort(Comparator.comparing(Method::getName));
        for (int seed = 0; seed < 3000; seed++) {
            run(face, seed);
        }
        due.end("RunsTest");
    }

    private static void run(List<Method> face, int seed) throws Exception {
        Random random = new Random(seed);
        SnowLetters all = new SnowLetters();
        SnowLetters again = new SnowLetters();
        SnowLetters withoutFindings = new SnowLetters();
        int[] found = new int[7];
        for (int call = 0; call < 400; call++) {
            if (random.nextInt(20) == 0) {
                String text = TEXTS[random.nextInt(TEXTS.length)];
                long got = fieldOf(all, text);
                due.is("the same text, seed " + seed, fieldOf(again, text), got);
                due.is("the same text without the findings ahead, seed " + seed, fieldOf(withoutFindings, text), got);
            }
            Method m = face.get(random.nextInt(face.size()));
            Object[] values = values(m, random);
            long got = ((Number) m.invoke(all, values)).longValue();
            String name = m.getName() + java.util.Arrays.toString(values) + ", seed " + seed + ", call " + call;
            due.is("the same call: " + name, ((Number) m.invoke(again, values)).longValue(), got);
            if (got < -1000000000L) {
                found[(int) (-1000000001L - got)]++;
            } else if (!m.getName().equals("status")) {
                long same = ((Number) m.invoke(withoutFindings, values)).longValue();
                due.is("without the findings ahead: " + name, same, got);
            }
        }
        int sum = 0;
        for (int which = 0; which < 7; which++) {
            due.is("status(" + which + "), seed " + seed, all.status(which), found[which]);
            sum += found[which];
        }
        due.is("status(-1), seed " + seed, all.status(-1), sum);
    }

    /** On an empty tape, so that no feed answers FULL. */
    private static int fieldOf(SnowLetters x, String text) {
        x.wipe();
        return Due.field(x, text);
    }

    private static Object[] values(Method m, Random random) {
        Object[] values = new Object[m.getParameterCount()];
        for (int i = 0; i < values.length; i++) {
            int v = value(random);
            boolean isLong = m.getParameterTypes()[i] == long.class;
            // What is written stays above the findings, so that an answer can be told from one.
            values[i] = isLong ? (Object) (long) random.nextInt(20) : (Object) v;
        }
        if (m.getName().equals("sheet") && random.nextInt(2) == 0) {
            values[1] = new int[] {0, 8, 8, 16, 64}[random.nextInt(5)];
        }
        return values;
    }

    private static int value(Random random) {
        switch (random.nextInt(8)) {
            case 0:
                return ODD_ARGUMENTS[random.nextInt(ODD_ARGUMENTS.length)];
            case 1:
                return random.nextInt(4096);
            case 2:
                return random.nextInt(40);
            case 3:
                return random.nextInt(13);
            default:
                return random.nextInt(5);
        }
    }
}
