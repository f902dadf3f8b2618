import java.util.function.Supplier;

/** Promises 10 to 16 at their edges: a test of its own for each sentence that names one. */
public final class BookEdgesTest {
    private static final Due due = new Due();
    private static final Edges edges = new Edges(due);

    public static void main(String[] args) {
        sign();
        form();
        read();
        doubts();
        apart();
        stay();
        forge();
        forgeFindings();
        due.end("BookEdgesTest");
    }

    /** THE BOOK alone, by pairs of a SIGN and its FORM. */
    private static Supplier<SnowLetters> book(int... pairs) {
        return () -> {
            SnowLetters x = new SnowLetters();
            for (int i = 0; i < pairs.length; i += 2) {
                x.sign(pairs[i], pairs[i + 1]);
            }
            return x;
        };
    }

    private static SnowLetters alike(int form) {
        SnowLetters x = new SnowLetters();
        for (int sign = 0; sign < 26; sign++) {
            x.sign(sign, form);
        }
        return x;
    }

    private static void sign() {
        SnowLetters x = new SnowLetters();
        due.is("10 sign: the first, nothing at first", x.sign(0, 4095), 0);
        due.is("10 sign: the first, what it was", x.sign(0, 1), 4095);
        due.is("10 sign: the last, nothing at first", x.sign(25, 4095), 0);
        due.is("10 sign: the last, what it was", x.sign(25, 4094), 4095);
        due.is("10 sign: 0 is none", x.sign(0, 0), 1);
        due.is("10 sign: 0 once more", x.sign(0, 0), 0);
        due.is("10 sign: one is left", x.count(1), 1);
        due.is("10 sign: the last stays", x.form(25), 4094);
        due.is("10 sign: none of it is a finding", x.status(-1), 0);
        due.is("10 sign: all of them can have a form", alike(7).count(1), 26);
        edges.outside("10 sign: sign", (y, v) -> y.sign(v, 1), 0, 25);
        edges.outside("10 sign: form", (y, v) -> y.sign(0, v), 0, 4095);
        edges.outside("10 sign: form of the last", (y, v) -> y.sign(25, v), 0, 4095);
        edges.refused("10 sign: both", y -> y.sign(26, 4096), Due.BEYOND);
    }

    private static void form() {
        for (int sign = 0; sign < 26; sign++) {
            int asked = sign;
            edges.asked("11 form: none at first", Edges.EMPTY, x -> x.form(asked), 0);
            edges.asked("11 form: all have one", Edges.FULL, x -> x.form(asked), 4095 - asked * 7);
        }
        edges.outside("11 form: sign", (x, v) -> x.form(v), 0, 25);
    }

    private static void read() {
        edges.refused("12 read: the book is empty", Edges.EMPTY, x -> x.read(0), Due.NONE);
        edges.refused("12 read: the book is empty", Edges.EMPTY, x -> x.read(4095), Due.NONE);
        edges.refused("12 read: the book is empty again", book(3, 7, 3, 0), x -> x.read(7), Due.NONE);
        edges.outside("12 read: form, ahead of NONE in an empty book", (x, v) -> x.read(v), 0, 4095);
        edges.asked("12 read: the empty form, though all strokes differ", book(25, 4095), x -> x.read(0), 25);
        edges.asked("12 read: the last form, though eleven strokes differ", book(0, 1), x -> x.read(4095), 0);
        edges.asked("12 read: the first sign", Edges.BUSY, x -> x.read(3), 0);
        edges.asked("12 read: the last sign", Edges.BUSY, x -> x.read(4095), 25);
        edges.asked("12 read: of two the least", book(25, 1, 24, 1), x -> x.read(1), 24);
        edges.asked("12 read: of 26 the least", () -> alike(9), x -> x.read(0), 0);
        edges.asked("12 read: nearer by one stroke, behind", book(0, 3, 25, 1), x -> x.read(1), 25);
        edges.asked("12 read: as near, behind", book(0, 3, 25, 0, 24, 5), x -> x.read(1), 0);
        edges.asked("12 read: strokes too many and too few count alike", book(4, 7, 5, 1), x -> x.read(3), 4);
        edges.asked("12 read: signs without form aren't asked", book(9, 4095), x -> x.read(0), 9);
    }

    private static void doubts() {
        edges.refused("13 doubts: the book is empty", Edges.EMPTY, x -> x.doubts(0), Due.NONE);
        edges.refused("13 doubts: the book is empty", Edges.EMPTY, x -> x.doubts(4095), Due.NONE);
        edges.refused("13 doubts: the book is empty again", book(0, 7, 0, 0), x -> x.doubts(7), Due.NONE);
        edges.outside("13 doubts: form, ahead of NONE in an empty book", (x, v) -> x.doubts(v), 0, 4095);
        edges.asked("13 doubts: itself alone", book(25, 4095), x -> x.doubts(0), 1);
        edges.asked("13 doubts: all 26", () -> alike(9), x -> x.doubts(9), 26);
        edges.asked("13 doubts: all 26, from afar", () -> alike(4095), x -> x.doubts(0), 26);
        edges.asked("13 doubts: the first and the last", book(0, 3, 25, 5, 7, 4095), x -> x.doubts(1), 2);
        edges.asked("13 doubts: those that differ in more don't count", book(0, 3, 25, 7), x -> x.doubts(3), 1);
        edges.asked("13 doubts: signs without form don't count", book(9, 1), x -> x.doubts(0), 1);
    }

    private static void apart() {
        edges.refused("14 apart: no sign", Edges.EMPTY, x -> x.apart(), Due.NONE);
        edges.refused("14 apart: the first sign alone", book(0, 1), x -> x.apart(), Due.NONE);
        edges.refused("14 apart: the last sign alone", book(25, 4095), x -> x.apart(), Due.NONE);
        edges.refused("14 apart: of two one is taken away", book(0, 1, 25, 1, 0, 0), x -> x.apart(), Due.NONE);
        edges.asked("14 apart: two alike", book(0, 1, 25, 1), x -> x.apart(), 0);
        edges.asked("14 apart: two that differ in all strokes", book(0, 1, 25, 4094), x -> x.apart(), 12);
        edges.asked("14 apart: two that differ in one", book(0, 1, 25, 3), x -> x.apart(), 1);
        edges.asked("14 apart: the least is between the last ones", book(0, 1, 24, 4094, 25, 4092), x -> x.apart(), 1);
        edges.asked("14 apart: the least is between the first ones", book(0, 1, 1, 3, 25, 4095), x -> x.apart(), 1);
        edges.asked("14 apart: 26 alike", () -> alike(77), x -> x.apart(), 0);
    }

    private static Supplier<SnowLetters> inSun(int sun, int... pairs) {
        return () -> {
            SnowLetters x = book(pairs).get();
            x.sun(sun);
            return x;
        };
    }

    private static void stay() {
        edges.asked("15 stay: an empty book", Edges.EMPTY, x -> x.stay(), 0);
        edges.asked("15 stay: an empty book in the sun", inSun(4095), x -> x.stay(), 0);
        edges.asked("15 stay: no sun, the first and the last", inSun(0, 0, 1, 25, 4095), x -> x.stay(), 1 + (1 << 25));
        edges.asked("15 stay: all sun, one alone", inSun(4095, 25, 4095), x -> x.stay(), 1 << 25);
        edges.asked("15 stay: all sun, that of fewest strokes", inSun(4095, 0, 7, 25, 3), x -> x.stay(), 1 << 25);
        edges.asked("15 stay: of two alike the least", inSun(0, 24, 3, 25, 3), x -> x.stay(), 1 << 24);
        edges.asked("15 stay: of 26 alike the least", () -> alike(3), x -> x.stay(), 1);
        edges.asked("15 stay: as near to one ahead", inSun(2, 3, 1, 4, 7), x -> x.stay(), 8);
        edges.asked("15 stay: as near to one behind", inSun(2, 3, 7, 4, 1), x -> x.stay(), 8 + 16);
        edges.asked("15 stay: one becomes another", inSun(2, 3, 1, 4, 3), x -> x.stay(), 8);
        SnowLetters x = new SnowLetters();
        for (int i = 0; i < 12; i++) {
            x.sign(i, 1 << i);
            x.sign(25 - i, 4095 - (1 << i));
        }
        due.is("15 stay: many apart, all but the two without form", x.stay(), (1 << 26) - 1 - (1 << 12) - (1 << 13));
    }

    private static void forge() {
        edges.asked("16 forge: from the first to the last", book(0, 1, 25, 3), x -> x.forge(0, 25), 1);
        edges.asked("16 forge: from the last to the first", book(0, 1, 25, 3), x -> x.forge(25, 0), 1);
        edges.asked("16 forge: as near to both, the least is read", book(0, 1, 25, 7), x -> x.forge(25, 0), 1);
        edges.asked("16 forge: as near to both is not enough", book(0, 1, 25, 7), x -> x.forge(0, 25), 2);
        edges.asked("16 forge: the farthest apart, to the least", book(0, 1, 25, 4094), x -> x.forge(25, 0), 6);
        edges.asked("16 forge: the farthest apart, from the least", book(0, 1, 25, 4094), x -> x.forge(0, 25), 7);
        edges.asked("16 forge: by no stroke, it is read as that", book(3, 9, 4, 9), x -> x.forge(4, 3), 0);
        edges.asked("16 forge: one stroke of two", book(2, 7, 3, 1), x -> x.forge(3, 2), 1);
        edges.asked("16 forge: others stand between", book(2, 7, 3, 1, 4, 3, 5, 5), x -> x.forge(3, 2), 2);
        edges.asked("16 forge: others as near, ahead", book(0, 11, 1, 13, 2, 7, 3, 1), x -> x.forge(3, 2), 2);
        edges.asked("16 forge: others as near, behind", book(2, 7, 3, 1, 4, 11, 5, 13), x -> x.forge(3, 2), 1);
    }

    private static void forgeFindings() {
        edges.outside("16 forge: sign", (x, v) -> x.forge(v, 1), 0, 25);
        edges.outside("16 forge: other", (x, v) -> x.forge(1, v), 0, 25);
        edges.refused("16 forge: both beyond", x -> x.forge(-1, 26), Due.BEYOND);
        for (int sign = 0; sign < 26; sign++) {
            int same = sign;
            edges.refused("16 forge: one and the same, with a form or without", x -> x.forge(same, same), Due.BEYOND);
        }
        edges.refused("16 forge: both without form", Edges.EMPTY, x -> x.forge(0, 25), Due.STATE);
        edges.refused("16 forge: no form of its own", book(25, 1), x -> x.forge(0, 25), Due.STATE);
        edges.refused("16 forge: the other has no form", book(25, 1), x -> x.forge(25, 0), Due.STATE);
        edges.refused("16 forge: by none", book(3, 9, 4, 9), x -> x.forge(3, 4), Due.NONE);
        edges.refused("16 forge: by none from a third", book(3, 9, 4, 9, 5, 1), x -> x.forge(5, 4), Due.NONE);
        edges.refused("16 forge: STATE ahead of NONE", book(3, 9, 4, 9), x -> x.forge(5, 4), Due.STATE);
        edges.refused("16 forge: of 26 alike only the first can be", () -> alike(9), x -> x.forge(0, 25), Due.NONE);
        edges.asked("16 forge: and all others are it", () -> alike(9), x -> x.forge(25, 0), 0);
    }
}
