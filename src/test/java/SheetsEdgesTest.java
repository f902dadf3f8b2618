import java.util.function.Supplier;

/** Promises 35 to 40 at their edges: a test of its own for each sentence that names one. */
public final class SheetsEdgesTest {
    private static final Due due = new Due();
    private static final Edges edges = new Edges(due);

    public static void main(String[] args) {
        sheet();
        sheetFindings();
        write();
        writeBits();
        copy();
        copyFindings();
        lays();
        laysEdgesOfNumbers();
        show();
        walk();
        walkFaults();
        walkFindings();
        due.end("SheetsEdgesTest");
    }

    /** One sheet of some bits with these numbers. */
    private static Supplier<SnowLetters> row(int s, int bits, long... numbers) {
        return () -> {
            SnowLetters x = new SnowLetters();
            x.sheet(s, bits, numbers.length);
            for (int i = 0; i < numbers.length; i++) {
                x.write(s, i, numbers[i]);
            }
            return x;
        };
    }

    private static String numbers(SnowLetters x, int s, int n) {
        StringBuilder text = new StringBuilder();
        for (int i = 0; i < n; i++) {
            long was = x.write(s, i, 0);
            x.write(s, i, was);
            text.append(was).append(' ');
        }
        return text.toString();
    }

    private static void sheet() {
        for (int s = 0; s < 4; s++) {
            for (int bits : new int[] {8, 16, 64}) {
                SnowLetters x = new SnowLetters();
                String name = "35 sheet " + s + " of " + bits + " bits: ";
                due.is(name + "missing at first", x.write(s, 0, 1), Due.MISSING);
                due.is(name + "no number", x.sheet(s, bits, 0), 0);
                due.is(name + "of no number isn't missing", x.lays(s), 0);
                due.is(name + "40 numbers", x.sheet(s, bits, 40), 40);
                edges.same(name + "all 0", numbers(x, s, 40), "0 ".repeat(40));
                x.write(s, 0, 5);
                x.write(s, 39, 5);
                due.is(name + "fewer", x.sheet(s, bits, 1), 1);
                due.is(name + "what was is gone", x.write(s, 0, 6), 0);
                due.is(name + "one number", x.write(s, 1, 6), Due.BEYOND);
                due.is(name + "more", x.sheet(s, bits, 40), 40);
                due.is(name + "what was at the end is gone", x.write(s, 39, 6), 0);
                due.is(name + "bits 0, answers 0", x.sheet(s, 0, 40), 0);
                due.is(name + "missing", x.write(s, 0, 1), Due.MISSING);
                due.is(name + "bits 0, when it is missing", x.sheet(s, 0, 0), 0);
                due.is(name + "missing still", x.write(s, 0, 1), Due.MISSING);
            }
        }
        SnowLetters x = Edges.BUSY.get();
        x.sheet(1, 8, 2);
        edges.same("35 sheet: those ahead of it stay", numbers(x, 0, 5), "10 11 12 13 14 ");
        edges.same("35 sheet: those behind it stay", numbers(x, 2, 2), "70004 70003 ");
    }

    private static void sheetFindings() {
        edges.outside("35 sheet: s", (x, v) -> x.sheet(v, 8, 1), 0, 3);
        edges.outside("35 sheet: s, ahead of SIZE", (x, v) -> x.sheet(v, 8, -1), 0, 3);
        int[] others = {-1, 1, 7, 9, 15, 17, 32, 63, 65, 128, Integer.MIN_VALUE, Integer.MAX_VALUE};
        for (int s = 0; s < 4; s++) {
            int t = s;
            for (int bits : others) {
                edges.refused("35 sheet: bits " + bits, x -> x.sheet(t, bits, 1), Due.BEYOND);
                edges.refused("35 sheet: bits " + bits + ", ahead of SIZE", x -> x.sheet(t, bits, -1), Due.BEYOND);
            }
            for (int bits : new int[] {0, 8, 16, 64}) {
                edges.refused("35 sheet: n below 0, bits " + bits, x -> x.sheet(t, bits, -1), Due.SIZE);
                edges.refused("35 sheet: n far below 0, bits " + bits, x -> x.sheet(t, bits, Integer.MIN_VALUE),
                    Due.SIZE);
                edges.refused("35 sheet: n above 40, bits " + bits, x -> x.sheet(t, bits, 41), Due.BEYOND);
                edges.refused("35 sheet: n far above 40, bits " + bits, x -> x.sheet(t, bits, Integer.MAX_VALUE),
                    Due.BEYOND);
            }
        }
    }

    private static void write() {
        SnowLetters x = Edges.BUSY.get();
        due.is("36 write: the first number, what it was", x.write(0, 0, 99), 10);
        due.is("36 write: the last number, what it was", x.write(0, 4, 98), 14);
        edges.same("36 write: the others stay", numbers(x, 0, 5), "99 11 12 13 98 ");
        edges.same("36 write: other sheets stay", numbers(x, 1, 3), "303 304 302 ");
        SnowLetters y = Edges.FULL.get();
        due.is("36 write: the fortieth", y.write(0, 39, 1), 5);
        due.is("36 write: no sheet behind it has changed", y.write(1, 0, 0), 0);
        edges.outside("36 write: s", (z, v) -> z.write(v, 0, 1), 0, 3);
        edges.outside("36 write: number", Edges.BUSY, (z, v) -> z.write(0, v, 1), 0, 4);
        edges.outside("36 write: number", Edges.FULL, (z, v) -> z.write(0, v, 1), 0, 39);
        edges.outside("36 write: no number at all", row(2, 64), (z, v) -> z.write(2, v, 1), 0, -1);
        for (int s = 0; s < 4; s++) {
            int t = s;
            edges.refused("36 write: missing", Edges.EMPTY, z -> z.write(t, 0, 1), Due.MISSING);
            edges.refused("36 write: missing, ahead of BEYOND", Edges.EMPTY, z -> z.write(t, -1, 1), Due.MISSING);
            edges.refused("36 write: missing, ahead of BEYOND", Edges.EMPTY, z -> z.write(t, 40, 1), Due.MISSING);
        }
    }

    private static void writeBits() {
        long[] given = {127, 128, 255, 256, -128, -129, 32767, 32768, 65535, 65536, -32768, -32769, 1L << 32,
            Long.MAX_VALUE, Long.MIN_VALUE, -1};
        long[] eight = {127, -128, -1, 0, -128, 127, -1, 0, -1, 0, 0, -1, 0, -1, 0, -1};
        long[] sixteen = {127, 128, 255, 256, -128, -129, 32767, -32768, -1, 0, -32768, 32767, 0, -1, 0, -1};
        SnowLetters x = new SnowLetters();
        x.sheet(0, 8, 1);
        x.sheet(1, 16, 1);
        x.sheet(2, 64, 1);
        for (int i = 0; i < given.length; i++) {
            for (int s = 0; s < 3; s++) {
                x.write(s, 0, given[i]);
            }
            due.is("36 write: the lowest 8 bits of " + given[i], x.write(0, 0, 0), eight[i]);
            due.is("36 write: the lowest 16 bits of " + given[i], x.write(1, 0, 0), sixteen[i]);
            due.is("36 write: all 64 bits of " + given[i], x.write(2, 0, 0), given[i]);
        }
        for (int finding = Due.SIZE; finding <= Due.BEYOND; finding++) {
            x.write(2, 0, finding);
            due.is("36 write: a number that looks like a finding", x.write(2, 0, 0), finding);
        }
        due.is("36 write: is none", x.status(-1), 0);
    }

    /** 8 bits: sheet 0 has 40 numbers 0, 1, .., 39, sheet 3 has five: 50 to 54. */
    private static SnowLetters two() {
        SnowLetters x = new SnowLetters();
        x.sheet(0, 8, 40);
        x.sheet(3, 8, 5);
        x.sheet(1, 16, 5);
        for (int i = 0; i < 40; i++) {
            x.write(0, i, i);
        }
        for (int i = 0; i < 5; i++) {
            x.write(3, i, 50 + i);
        }
        return x;
    }

    private static void copied(String sentence, int s, int from, int t, int to, int n, String want) {
        SnowLetters x = two();
        due.is("37 copy: " + sentence, x.copy(s, from, t, to, n), n);
        edges.same("37 copy: " + sentence, numbers(x, t, 5), want);
    }

    private static void copy() {
        copied("none", 0, 0, 3, 0, 0, "50 51 52 53 54 ");
        copied("none from the end on", 0, 40, 3, 5, 0, "50 51 52 53 54 ");
        copied("the last one to the last place", 0, 39, 3, 4, 1, "50 51 52 53 39 ");
        copied("the last five, all there is room for", 0, 35, 3, 0, 5, "35 36 37 38 39 ");
        copied("the first to the first", 0, 0, 3, 0, 1, "0 51 52 53 54 ");
        copied("from the smaller one", 3, 0, 0, 0, 5, "50 51 52 53 54 ");
        copied("over itself, forward", 3, 0, 3, 1, 4, "50 50 51 52 53 ");
        copied("over itself, back", 3, 1, 3, 0, 4, "51 52 53 54 54 ");
        copied("over itself, in its place", 3, 0, 3, 0, 5, "50 51 52 53 54 ");
        SnowLetters x = two();
        due.is("37 copy: all forty", x.copy(0, 0, 0, 0, 40), 40);
        due.is("37 copy: 39 forward over itself", x.copy(0, 0, 0, 1, 39), 39);
        due.is("37 copy: as they all were", x.write(0, 39, 0), 38);
        edges.same("37 copy: the sheet behind stays", numbers(x, 3, 5), "50 51 52 53 54 ");
        edges.asked("37 copy: none between two of no numbers", row(2, 64), y -> y.copy(2, 0, 2, 0, 0), 0);
        due.is("37 copy: none of it is a finding", x.status(-1), 0);
    }

    private static void copyFindings() {
        Supplier<SnowLetters> two = SheetsEdgesTest::two;
        edges.outside("37 copy: s", (x, v) -> x.copy(v, 0, 0, 0, 0), 0, 3);
        edges.outside("37 copy: t", (x, v) -> x.copy(0, 0, v, 0, 0), 0, 3);
        edges.outside("37 copy: s, ahead of MISSING", Edges.EMPTY, (x, v) -> x.copy(v, 0, 0, 0, 0), 0, 3);
        edges.outside("37 copy: t, ahead of MISSING", Edges.EMPTY, (x, v) -> x.copy(0, 0, v, 0, 0), 0, 3);
        edges.refused("37 copy: MISSING, both", Edges.EMPTY, x -> x.copy(0, 0, 3, 0, 0), Due.MISSING);
        edges.refused("37 copy: MISSING, the first", two, x -> x.copy(2, 0, 0, 0, 1), Due.MISSING);
        edges.refused("37 copy: MISSING, the other", two, x -> x.copy(0, 0, 2, 0, 1), Due.MISSING);
        edges.refused("37 copy: MISSING, to itself", two, x -> x.copy(2, 0, 2, 0, 0), Due.MISSING);
        edges.refused("37 copy: MISSING, ahead of BEYOND", two, x -> x.copy(2, -1, 0, 41, -1), Due.MISSING);
        edges.refused("37 copy: MISSING, ahead of BEYOND", two, x -> x.copy(0, -1, 2, 41, -1), Due.MISSING);
        edges.refused("37 copy: KIND", two, x -> x.copy(0, 0, 1, 0, 1), Due.KIND);
        edges.refused("37 copy: KIND, of none", two, x -> x.copy(1, 0, 0, 0, 0), Due.KIND);
        edges.refused("37 copy: KIND, ahead of BEYOND", two, x -> x.copy(1, -1, 0, 41, -1), Due.KIND);
        edges.refused("37 copy: KIND, 64 bits", Edges.BUSY, x -> x.copy(2, 0, 0, 0, 1), Due.KIND);
        edges.refused("37 copy: KIND, 64 bits", Edges.BUSY, x -> x.copy(1, 0, 2, 0, 1), Due.KIND);
        edges.outside("37 copy: from, of none", two, (x, v) -> x.copy(0, v, 3, 0, 0), 0, 40);
        edges.outside("37 copy: from, of one", two, (x, v) -> x.copy(0, v, 3, 0, 1), 0, 39);
        edges.outside("37 copy: to, of none", two, (x, v) -> x.copy(0, 0, 3, v, 0), 0, 5);
        edges.outside("37 copy: to, of one", two, (x, v) -> x.copy(0, 0, 3, v, 1), 0, 4);
        edges.outside("37 copy: n, the other has not so many", two, (x, v) -> x.copy(0, 0, 3, 0, v), 0, 5);
        edges.outside("37 copy: n, the first has not so many", two, (x, v) -> x.copy(3, 0, 0, 0, v), 0, 5);
        edges.outside("37 copy: n from the last on", two, (x, v) -> x.copy(0, 39, 3, 4, v), 0, 1);
        int most = Integer.MAX_VALUE;
        int least = Integer.MIN_VALUE;
        edges.refused("37 copy: from and n come round", two, x -> x.copy(0, 1, 3, 0, most), Due.BEYOND);
        edges.refused("37 copy: from and n come round", two, x -> x.copy(0, most, 3, 0, most), Due.BEYOND);
        edges.refused("37 copy: to and n come round", two, x -> x.copy(0, 0, 3, most, 1), Due.BEYOND);
        edges.refused("37 copy: from below 0 and n", two, x -> x.copy(0, -5, 3, 0, 5), Due.BEYOND);
        edges.refused("37 copy: n below 0 from the end on", two, x -> x.copy(0, 40, 3, 5, -5), Due.BEYOND);
        edges.refused("37 copy: all far below 0", two, x -> x.copy(0, least, 3, least, least), Due.BEYOND);
    }

    private static void lays() {
        edges.outside("38 lays: s", (x, v) -> x.lays(v), 0, 3);
        edges.refused("38 lays: MISSING", Edges.EMPTY, x -> x.lays(0), Due.MISSING);
        edges.refused("38 lays: MISSING", Edges.BUSY, x -> x.lays(3), Due.MISSING);
        edges.refused("38 lays: MISSING", Edges.FULL, x -> x.lays(3), Due.MISSING);
        edges.asked("38 lays: no numbers", row(3, 8), x -> x.lays(3), 0);
        edges.like("38 lays: one number, the others stay", () -> {
            SnowLetters x = Edges.FULL.get();
            x.write(1, 0, 9);
            return x;
        }, x -> x.lays(1), 1, x -> x.sign(0, 9));
        SnowLetters x = Edges.FULL.get();
        for (int i = 0; i < 40; i++) {
            x.write(0, i, i + 1);
        }
        due.is("38 lays: those of 40 that stand for a sign", x.lays(0), 26);
        due.is("38 lays: the first", x.form(0), 1);
        due.is("38 lays: the last", x.form(25), 26);
        due.is("38 lays: no finding", x.status(-1), 0);
    }

    private static void laysEdgesOfNumbers() {
        long[] given = {0, 4095, 4096, -1, 1L << 32, (1L << 32) + 5, Long.MIN_VALUE, Long.MAX_VALUE, 1};
        int[] want = {0, 4095, 70, 70, 70, 70, 70, 70, 1};
        SnowLetters x = row(2, 64, given).get();
        for (int sign = 0; sign < 26; sign++) {
            x.sign(sign, 70);
        }
        due.is("38 lays: 0, 4095 and 1 came", x.lays(2), 3);
        for (int sign = 0; sign < given.length; sign++) {
            due.is("38 lays: " + given[sign], x.form(sign), want[sign]);
        }
        due.is("38 lays: the sign behind the last number stays", x.form(given.length), 70);
        SnowLetters y = row(0, 16, 4095, 4096, 65535, 65536).get();
        due.is("38 lays: 16 bits, with a sign", y.lays(0), 2);
        due.is("38 lays: 4095", y.form(0), 4095);
        SnowLetters z = row(0, 8, 127, 128, 255, 256).get();
        due.is("38 lays: 8 bits, with a sign", z.lays(0), 2);
        due.is("38 lays: 127", z.form(0), 127);
        SnowLetters last = row(1, 64, new long[27]).get();
        last.write(1, 25, 4096);
        last.write(1, 26, 1);
        due.is("38 lays: the 26th may not be, the 27th stands for none", last.lays(1), 25);
    }

    private static void show() {
        edges.outside("39 show: s", (x, v) -> x.show(v), 0, 3);
        edges.refused("39 show: MISSING", Edges.EMPTY, x -> x.show(0), Due.MISSING);
        edges.refused("39 show: MISSING", Edges.BUSY, x -> x.show(3), Due.MISSING);
        edges.refused("39 show: MISSING", Edges.FULL, x -> x.show(3), Due.MISSING);
        edges.asked("39 show: no letters", row(0, 8, 7, 7), x -> x.show(0), 0);
        edges.asked("39 show: no numbers", () -> {
            SnowLetters x = row(0, 8).get();
            x.letter(0, 1);
            return x;
        }, x -> x.show(0), 0);
        edges.like("39 show: more letters than numbers", Edges.BUSY, x -> x.show(2), 2, x -> {
            x.write(2, 0, 0);
            return x.write(2, 1, 0);
        });
        SnowLetters x = Edges.FULL.get();
        x.write(2, 12, 7);
        due.is("39 show: more numbers than letters", x.show(2), 12);
        due.is("39 show: the number behind the last letter stays", x.write(2, 12, 0), 7);
        for (int bits : new int[] {8, 16, 64}) {
            SnowLetters y = row(1, bits, 5, 5, 5).get();
            y.letter(0, 4095);
            y.letter(3, 0);
            due.is("39 show: the book is empty", y.show(1), 2);
            edges.same("39 show: -1, the book is empty", numbers(y, 1, 3), "-1 -1 5 ");
            y.sign(25, 4095);
            y.sign(0, 12);
            due.is("39 show: no finding", y.status(-1), 0);
            y.show(1);
            edges.same("39 show: the last and the first sign", numbers(y, 1, 3), "25 0 5 ");
        }
    }

    private static void walked(String sentence, int form, int want, long... points) {
        edges.asked("40 walk: " + sentence, row(3, 64, points), x -> x.walk(3, form), want);
    }

    private static void walk() {
        walked("no numbers, no strokes", 0, 0);
        walked("one point, no strokes", 0, 0, 0);
        walked("the last point, no strokes", 0, 0, 8);
        walked("no numbers, one stroke is left", 1, 1);
        walked("no numbers, all strokes are left", 4095, 1);
        walked("one point, one stroke is left", 1, 2, 0);
        walked("the first stroke", 1, 0, 0, 1);
        walked("the first stroke, back", 1, 0, 1, 0);
        walked("the last stroke", 2048, 0, 5, 8);
        walked("the last stroke, back", 2048, 0, 8, 5);
        walked("one stroke of two is left", 3, 3, 0, 1);
        walked("the last one is left", 1 + 2048, 3, 0, 1);
        walked("around", 48 + 3 + 64 + 256 + 512 + 2048, 0, 0, 1, 2, 5, 8, 7, 6, 3, 0);
        SnowLetters x = row(0, 8, new long[40]).get();
        for (int i = 1; i < 40; i++) {
            x.write(0, i, i % 2);
        }
        due.is("40 walk: forty numbers, the third treads it twice", x.walk(0, 1), 3);
        SnowLetters y = row(0, 8, 0, 1, 256 + 4).get();
        due.is("40 walk: 8 bits make a point of it", y.walk(0, 1 + 128), 0);
    }

    private static void walkFaults() {
        walked("the first isn't a point", 1, 1, 9, 0, 1);
        walked("the first isn't a point, below", 1, 1, -1, 0, 1);
        walked("the first isn't a point, no strokes", 0, 1, 9);
        walked("the last isn't a point", 1, 3, 0, 1, 9);
        walked("one that is a point by its lowest bits alone", 1, 2, 0, (1L << 32) + 1);
        walked("far below", 1, 1, Long.MIN_VALUE);
        walked("far above", 1, 1, Long.MAX_VALUE);
        walked("on the spot", 1, 2, 0, 0, 1);
        walked("no stroke at all between these", 4095, 2, 0, 2);
        walked("nor across", 4095, 2, 0, 4);
        walked("nor round the edge", 4095, 2, 2, 3);
        walked("nor round the next edge", 4095, 2, 5, 6);
        walked("a stroke that the form hasn't", 4094, 2, 0, 1);
        walked("the first step of an empty form", 0, 2, 0, 1);
        walked("a stroke trodden already", 1, 3, 0, 1, 0);
        walked("a stroke trodden already, strokes are left", 3, 3, 0, 1, 0);
        walked("of two faults the first", 1, 2, 0, 3, 9);
    }

    private static void walkFindings() {
        edges.outside("40 walk: s", (x, v) -> x.walk(v, 0), 0, 3);
        edges.refused("40 walk: MISSING", Edges.EMPTY, x -> x.walk(0, 0), Due.MISSING);
        edges.refused("40 walk: MISSING", Edges.BUSY, x -> x.walk(3, 4095), Due.MISSING);
        for (int form : new int[] {-1, 4096, Integer.MIN_VALUE, Integer.MAX_VALUE}) {
            edges.refused("40 walk: MISSING, ahead of the form", Edges.EMPTY, x -> x.walk(0, form), Due.MISSING);
            edges.refused("40 walk: MISSING, ahead of the form", Edges.FULL, x -> x.walk(3, form), Due.MISSING);
            edges.refused("40 walk: no such sheet, ahead of MISSING", x -> x.walk(4, form), Due.BEYOND);
        }
        edges.outside("40 walk: form", Edges.BUSY, (x, v) -> x.walk(0, v), 0, 4095);
        edges.outside("40 walk: form", Edges.FULL, (x, v) -> x.walk(2, v), 0, 4095);
        edges.outside("40 walk: form, no numbers", row(0, 8), (x, v) -> x.walk(0, v), 0, 4095);
        edges.asked("40 walk: the last form", row(0, 8), x -> x.walk(0, 4095), 1);
    }
}
