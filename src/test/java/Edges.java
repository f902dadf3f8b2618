import java.util.Arrays;
import java.util.List;
import java.util.function.Supplier;
import java.util.function.ToLongFunction;

/**
 * Asks at the edges of a promise. Each call is made on a new object; another object, made alike, is not asked, so that
 * what the call changed is what differs between the two.
 */
final class Edges {
    /** A call with one argument that is tried at its bounds. */
    interface Argument {
        long call(SnowLetters x, int v);
    }

    static final Supplier<SnowLetters> EMPTY = SnowLetters::new;
    static final Supplier<SnowLetters> BUSY = Edges::busy;
    static final Supplier<SnowLetters> FULL = Edges::full;
    private static final List<Supplier<SnowLetters>> ALL = List.of(EMPTY, BUSY, FULL);

    private final Due due;

    Edges(Due due) {
        this.due = due;
    }

    /** Some of all there is; 6 LETTERS; SHEETS of 8, 16 and 64 bits, the last one MISSING; HOUR 5. */
    private static SnowLetters busy() {
        SnowLetters x = new SnowLetters();
        x.sign(0, 3);
        x.sign(1, 12);
        x.letter(0, 3);
        x.letter(1, 197);
        x.sun(6);
        x.hours(2);
        x.image();
        x.sign(2, 48);
        x.sign(25, 4095);
        x.letter(2, 12);
        x.letter(3, 1);
        x.letter(4, 2);
        x.letter(5, 33);
        x.set(2, 2, 9);
        x.sun(3);
        x.hours(3);
        Due.feed(x, "sun 77;icy form 9 deep 3");
        x.sheet(0, 8, 5);
        x.sheet(1, 16, 3);
        x.sheet(2, 64, 2);
        for (int i = 0; i < 5; i++) {
            x.write(0, i, 10 + i);
            x.write(1, i % 3, 300 + i);
            x.write(2, i % 2, 70000 + i);
        }
        return x;
    }

    /** 26 SIGNS, 12 LETTERS, HOUR 999, 120 bytes, SHEETS of 40 numbers (the last one MISSING), an image. */
    private static SnowLetters full() {
        SnowLetters x = new SnowLetters();
        for (int sign = 0; sign < 26; sign++) {
            x.sign(sign, 4095 - sign * 7);
        }
        for (int letter = 0; letter < 12; letter++) {
            x.letter(letter % 6, 300 * letter + 11);
        }
        for (int i = 0; i < 10; i++) {
            x.hours(99);
        }
        x.image();
        x.hours(9);
        x.sun(4095);
        Due.feed(x, "sun0;".repeat(23) + "sun77");
        x.sheet(0, 8, 40);
        x.sheet(1, 64, 1);
        x.sheet(2, 8, 40);
        x.write(0, 39, 5);
        x.write(2, 0, 7);
        return x;
    }

    /** In every scene: it is answered so, and nothing changes by it, not even status(). */
    void asked(String sentence, ToLongFunction<SnowLetters> call, long answer) {
        for (Supplier<SnowLetters> scene : ALL) {
            asked(sentence, scene, call, answer);
        }
    }

    void asked(String sentence, Supplier<SnowLetters> scene, ToLongFunction<SnowLetters> call, long answer) {
        compare(sentence, scene, call, answer, -1);
    }

    /** In every scene: it answers a finding, that finding is counted once, and nothing else changes by it. */
    void refused(String sentence, ToLongFunction<SnowLetters> call, int finding) {
        for (Supplier<SnowLetters> scene : ALL) {
            refused(sentence, scene, call, finding);
        }
    }

    void refused(String sentence, Supplier<SnowLetters> scene, ToLongFunction<SnowLetters> call, int finding) {
        compare(sentence, scene, call, finding, Due.BEYOND - finding);
    }

    /** In every scene: the first values outside of the bounds, and the farthest, are BEYOND. */
    void outside(String sentence, Argument call, int least, int most) {
        for (Supplier<SnowLetters> scene : ALL) {
            outside(sentence, scene, call, least, most);
        }
    }

    void outside(String sentence, Supplier<SnowLetters> scene, Argument call, int least, int most) {
        for (int v : new int[] {least - 1, most + 1, Integer.MIN_VALUE, Integer.MAX_VALUE}) {
            refused(sentence + " (" + v + ")", scene, x -> call.call(x, v), Due.BEYOND);
        }
    }

    /** What comes of a call is what comes of another one: nothing else changed by it, and no finding was told. */
    void like(String sentence, Supplier<SnowLetters> scene, ToLongFunction<SnowLetters> call, long answer,
            ToLongFunction<SnowLetters> other) {
        compare(sentence, scene, call, answer, () -> {
            SnowLetters x = scene.get();
            other.applyAsLong(x);
            return x;
        }, -1);
    }

    private void compare(String sentence, Supplier<SnowLetters> scene, ToLongFunction<SnowLetters> call, long answer,
            int counted) {
        compare(sentence, scene, call, answer, scene, counted);
    }

    private void compare(String sentence, Supplier<SnowLetters> scene, ToLongFunction<SnowLetters> call, long answer,
            Supplier<SnowLetters> dueScene, int counted) {
        SnowLetters x = scene.get();
        SnowLetters y = dueScene.get();
        due.is(sentence, call.applyAsLong(x), answer);
        int[] found = State.findings(x);
        int[] want = State.findings(y);
        if (counted >= 0) {
            want[0]++;
            want[counted + 1]++;
        }
        same(sentence + ": status()", Arrays.toString(found), Arrays.toString(want));
        same(sentence + ": what there is", State.of(x), State.of(y));
    }

    void same(String sentence, String got, String want) {
        if (!got.equals(want)) {
            System.out.println(sentence + " is\n  " + got + "\n  due is\n  " + want);
        }
        due.is(sentence, got.equals(want) ? 1 : 0, 1);
    }
}
