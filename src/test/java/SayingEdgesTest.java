import java.util.function.Supplier;

/** Promises 28 to 31 at their edges: a test of its own for each sentence that names one. */
public final class SayingEdgesTest {
    private static final Due due = new Due();
    private static final Edges edges = new Edges(due);

    public static void main(String[] args) {
        best();
        bestOfTwelve();
        worth();
        meant();
        cheap();
        due.end("SayingEdgesTest");
    }

    /** LETTERS by pairs of a KIND and a FORM. */
    private static Supplier<SnowLetters> letters(int... pairs) {
        return () -> {
            SnowLetters x = new SnowLetters();
            for (int i = 0; i < pairs.length; i += 2) {
                x.letter(pairs[i], pairs[i + 1]);
            }
            return x;
        };
    }

    private static Supplier<SnowLetters> withBook(Supplier<SnowLetters> scene, int sun, int hours, int... forms) {
        return () -> {
            SnowLetters x = scene.get();
            for (int sign = 0; sign < forms.length; sign++) {
                x.sign(sign, forms[sign]);
            }
            x.sun(sun);
            if (hours > 0) {
                x.hours(hours);
            }
            return x;
        };
    }

    private static void best() {
        edges.asked("28 best: no letters, no feet", Edges.EMPTY, x -> x.best(0), 0);
        edges.asked("28 best: no letters, most feet", Edges.EMPTY, x -> x.best(9999), 0);
        edges.outside("28 best: n", (x, v) -> x.best(v), 0, 9999);
        edges.asked("28 best: no feet, none can be", letters(0, 1), x -> x.best(0), 0);
        edges.asked("28 best: just its feet", letters(0, 7), x -> x.best(4), 1);
        edges.asked("28 best: one foot less", letters(0, 7), x -> x.best(3), 0);
        edges.asked("28 best: feet together just n", letters(0, 7, 0, 7), x -> x.best(8), 3);
        edges.asked("28 best: feet together one above", letters(0, 7, 0, 7), x -> x.best(7), 1);
        edges.asked("28 best: of several the least set", letters(0, 1, 0, 2, 0, 3), x -> x.best(2), 3);
        edges.asked("28 best: worth nothing adds nothing", letters(0, 1, 0, 0), x -> x.best(9999), 1);
        Supplier<SnowLetters> empty = letters(0, 0, 0, 1);
        edges.asked("28 best: no feet, and 10", withBook(empty, 0, 0, 3), x -> x.best(0), 1);
        edges.asked("28 best: it shows nothing, and isn't read as its form",
            withBook(letters(0, 7, 0, 64), 7, 6, 7, 64), x -> x.best(9999), 2);
        edges.asked("28 best: most feet", Edges.BUSY, x -> x.best(9999), 63);
        SnowLetters again = letters(0, 7).get();
        due.is("28 best: enough feet", again.best(4), 1);
        due.is("28 best: then no feet, nothing of the last answer is left", again.best(0), 0);
        due.is("29 worth: then no feet", again.worth(0), 0);
        due.is("29 worth: enough feet", again.worth(4), 3);
        due.is("28 best: too few again", again.best(3), 0);
    }

    private static void bestOfTwelve() {
        SnowLetters x = new SnowLetters();
        for (int i = 0; i < 12; i++) {
            x.letter(0, 1);
        }
        for (int n = 0; n <= 12; n++) {
            due.is("28 best: the first of twelve alike, n " + n, x.best(n), (1 << n) - 1);
            due.is("29 worth: of twelve alike, n " + n, x.worth(n), n);
        }
        due.is("28 best: more feet than there are", x.best(13), 4095);
        due.is("29 worth: more feet than there are", x.worth(13), 12);
        x.sign(0, 1);
        due.is("29 worth: and 10 each", x.worth(9999), 132);
        x.set(11, 1, 3);
        due.is("28 best: two for one and a foot more", x.best(2), 3);
        due.is("28 best: the twelfth in the place of the eleventh", x.best(12), 1023 + 2048);
        due.is("28 best: the twelfth, too", x.best(13), 4095);
        due.is("28 best: no call of these is a finding", x.status(-1), 0);
    }

    private static void worth() {
        edges.asked("29 worth: no letters, no feet", Edges.EMPTY, x -> x.worth(0), 0);
        edges.asked("29 worth: no letters, most feet", Edges.EMPTY, x -> x.worth(9999), 0);
        edges.outside("29 worth: n", (x, v) -> x.worth(v), 0, 9999);
        edges.asked("29 worth: an empty book adds no 10", letters(0, 7), x -> x.worth(9999), 3);
        edges.asked("29 worth: nor to an empty form", letters(0, 0), x -> x.worth(9999), 0);
        edges.asked("29 worth: one sign alone does", withBook(letters(0, 7), 0, 0, 4095), x -> x.worth(9999), 13);
        edges.asked("29 worth: all strokes, and 10", withBook(letters(1, 4095), 0, 0, 1), x -> x.worth(26), 22);
        edges.asked("29 worth: one foot less", withBook(letters(1, 4095), 0, 0, 1), x -> x.worth(25), 0);
        edges.asked("29 worth: what it shows, with its cross", letters(3, 1), x -> x.worth(3), 3);
        edges.asked("29 worth: what it shows, with its line", letters(4, 16), x -> x.worth(4), 2);
        edges.asked("29 worth: an hour ahead of melting", withBook(letters(0, 7), 7, 5, 7, 64), x -> x.worth(4), 13);
        edges.asked("29 worth: melted, taken for another", withBook(letters(0, 7), 7, 6, 7, 64), x -> x.worth(4), 0);
        edges.asked("29 worth: melted, taken for itself", withBook(letters(0, 7), 7, 6, 7), x -> x.worth(4), 10);
    }

    private static void meant() {
        edges.outside("30 meant: no letters at all", Edges.EMPTY, (x, v) -> x.meant(v), 0, -1);
        edges.outside("30 meant: letter", Edges.BUSY, (x, v) -> x.meant(v), 0, 5);
        edges.outside("30 meant: letter", Edges.FULL, (x, v) -> x.meant(v), 0, 11);
        edges.asked("30 meant: the first letter", Edges.BUSY, x -> x.meant(0), 1);
        edges.asked("30 meant: the last letter", Edges.BUSY, x -> x.meant(5), 0);
        edges.asked("30 meant: nothing is left and all may be", Edges.FULL, x -> x.meant(5), (1 << 26) - 1);
        edges.asked("30 meant: an empty book", withBook(letters(0, 7), 4095, 99), x -> x.meant(0), 0);
        edges.asked("30 meant: signs without form aren't meant by nothing",
            withBook(letters(0, 0), 4095, 0, 0, 5, 0), x -> x.meant(0), 2);
        edges.asked("30 meant: no stroke that their form hasn't",
            withBook(letters(0, 7), 4095, 0, 3, 7, 15), x -> x.meant(0), 2 + 4);
        edges.asked("30 meant: lacks none but those of the sun",
            withBook(letters(0, 7), 8, 0, 7, 15, 31, 23), x -> x.meant(0), 1 + 2);
        edges.asked("30 meant: no sun, itself alone", withBook(letters(0, 7), 0, 0, 7, 15, 3), x -> x.meant(0), 1);
        edges.asked("30 meant: a cross that no form has", withBook(letters(3, 1), 4095, 0, 1, 4), x -> x.meant(0), 0);
        edges.asked("30 meant: a cross that a form has", withBook(letters(3, 1), 4095, 0, 1, 13), x -> x.meant(0), 2);
        edges.asked("30 meant: none, it is no finding", withBook(letters(0, 64), 0, 0, 1), x -> x.meant(0), 0);
    }

    private static void cheap() {
        for (int kind = 0; kind < 6; kind++) {
            int k = kind;
            edges.refused("31 cheap: the book is empty", Edges.EMPTY, x -> x.cheap(k), Due.NONE);
            edges.asked("31 cheap: the least of three that take as many", Edges.BUSY, x -> x.cheap(k), 0);
            edges.asked("31 cheap: the last sign alone", () -> {
                SnowLetters x = new SnowLetters();
                x.sign(25, 4095);
                return x;
            }, x -> x.cheap(k), 25);
            edges.asked("31 cheap: strays are feet, too", withBook(letters(), 0, 0, 1 + 32, 1 + 2 + 4, 3),
                x -> x.cheap(k), 2);
            edges.asked("31 cheap: two and a stray against three", withBook(letters(), 0, 0, 277, 1 + 2 + 256, 33),
                x -> x.cheap(k), 1);
        }
        SnowLetters emptied = new SnowLetters();
        emptied.sign(4, 1);
        emptied.sign(4, 0);
        due.is("31 cheap: the book is empty again", emptied.cheap(0), Due.NONE);
        edges.outside("31 cheap: kind, ahead of NONE in an empty book", (x, v) -> x.cheap(v), 0, 5);
    }
}
