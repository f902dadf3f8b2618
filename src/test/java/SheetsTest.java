/** Promises 35 to 40: SHEETS. */
public final class SheetsTest {
    private static final Due due = new Due();
    private static final int[] NO_SHEETS = {-1, 4, Integer.MIN_VALUE, Integer.MAX_VALUE};

    public static void main(String[] args) {
        laying();
        writing();
        copying();
        toTheBook();
        showing();
        walking();
        wrongSheets();
        due.end("SheetsTest");
    }

    private static void laying() {
        SnowLetters x = new SnowLetters();
        for (int s = 0; s < 4; s++) {
            due.is("missing at first", x.write(s, 0, 0), Due.MISSING);
        }
        due.is("sheet", x.sheet(0, 8, 40), 40);
        due.is("sheet", x.sheet(1, 16, 1), 1);
        due.is("sheet", x.sheet(2, 64, 0), 0);
        due.is("sheet, missing", x.sheet(3, 0, 40), 0);
        due.is("too many", x.sheet(0, 8, 41), Due.BEYOND);
        due.is("too many, missing", x.sheet(0, 0, 41), Due.BEYOND);
        due.is("too few", x.sheet(0, 8, -1), Due.SIZE);
        due.is("too few, missing", x.sheet(0, 0, -1), Due.SIZE);
        due.is("far too few", x.sheet(0, 64, Integer.MIN_VALUE), Due.SIZE);
        due.is("far too many", x.sheet(0, 64, Integer.MAX_VALUE), Due.BEYOND);
        for (int bits : new int[] {-1, 1, 7, 9, 32, 63, 65, 128, Integer.MIN_VALUE}) {
            due.is("other bits, ahead of SIZE", x.sheet(0, bits, -1), Due.BEYOND);
        }
        due.is("no such sheet, ahead of SIZE", x.sheet(4, 8, -1), Due.BEYOND);
        due.is("the last number is there", x.write(0, 39, 5), 0);
        due.is("still", x.write(0, 39, 6), 5);
        x.write(0, 0, 4);
        due.is("laid anew", x.sheet(0, 8, 40), 40);
        due.is("all 0", x.write(0, 0, 6), 0);
        due.is("all 0", x.write(0, 39, 6), 0);
        due.is("laid missing", x.sheet(0, 0, 7), 0);
        due.is("missing", x.write(0, 0, 6), Due.MISSING);
        due.is("a sheet of none", x.write(2, 0, 6), Due.BEYOND);
        due.is("status(5)", x.status(5), 5);
        due.is("status(6)", x.status(6), 3);
    }

    private static void writing() {
        SnowLetters x = new SnowLetters();
        x.sheet(0, 8, 2);
        x.sheet(1, 16, 2);
        x.sheet(2, 64, 2);
        long[] values = {127, 128, 255, 256, -1, 32767, 32768, 65535, 65536, 0x123456789abcdef0L,
            Long.MIN_VALUE, Long.MAX_VALUE, -1000000001};
        for (long v : values) {
            x.write(0, 1, v);
            due.is("8 bits of " + v, x.write(0, 1, 0), (byte) v);
            x.write(1, 1, v);
            due.is("16 bits of " + v, x.write(1, 1, 0), (short) v);
            x.write(2, 1, v);
            due.is("64 bits of " + v, x.write(2, 1, 0), v);
        }
        due.is("a number like a finding is none", x.status(-1), 0);
        for (int bad : new int[] {-1, 2, 40, Integer.MIN_VALUE, Integer.MAX_VALUE}) {
            due.is("no such number", x.write(0, bad, 1), Due.BEYOND);
        }
        due.is("the other numbers stay", x.write(0, 0, 1), 0);
    }

    private static String row(SnowLetters x, int s, int n) {
        StringBuilder text = new StringBuilder();
        for (int i = 0; i < n; i++) {
            long v = x.write(s, i, 0);
            x.write(s, i, v);
            text.append(v).append(' ');
        }
        return text.toString();
    }

    private static void rowIs(SnowLetters x, int s, int n, String want) {
        String got = row(x, s, n);
        if (!got.equals(want)) {
            System.out.println("sheet " + s + " is " + got + "; due is " + want);
        }
        due.is("sheet " + s, got.equals(want) ? 1 : 0, 1);
    }

    private static void copying() {
        SnowLetters x = new SnowLetters();
        x.sheet(0, 8, 5);
        x.sheet(1, 8, 3);
        x.sheet(2, 16, 5);
        for (int i = 0; i < 5; i++) {
            x.write(0, i, i + 1);
        }
        due.is("copy", x.copy(0, 1, 1, 0, 3), 3);
        rowIs(x, 1, 3, "2 3 4 ");
        rowIs(x, 0, 5, "1 2 3 4 5 ");
        due.is("copy forward over itself", x.copy(0, 0, 0, 1, 4), 4);
        rowIs(x, 0, 5, "1 1 2 3 4 ");
        due.is("copy back over itself", x.copy(0, 2, 0, 0, 3), 3);
        rowIs(x, 0, 5, "2 3 4 3 4 ");
        due.is("copy none", x.copy(0, 5, 1, 3, 0), 0);
        due.is("copy none of behind the end", x.copy(0, 6, 1, 0, 0), Due.BEYOND);
        due.is("copy none to behind the end", x.copy(0, 0, 1, 4, 0), Due.BEYOND);
        due.is("copy too many of one", x.copy(1, 1, 0, 0, 3), Due.BEYOND);
        due.is("copy too many to one", x.copy(0, 0, 1, 1, 3), Due.BEYOND);
        due.is("copy below 0", x.copy(0, -1, 1, 0, 1), Due.BEYOND);
        due.is("copy below 0", x.copy(0, 0, 1, -1, 1), Due.BEYOND);
        due.is("copy below 0", x.copy(0, 0, 1, 0, -1), Due.BEYOND);
        due.is("copy far", x.copy(0, Integer.MAX_VALUE, 1, 0, 1), Due.BEYOND);
        due.is("copy far", x.copy(0, 1, 1, Integer.MAX_VALUE, Integer.MAX_VALUE), Due.BEYOND);
        due.is("copy far", x.copy(0, 1, 1, 1, Integer.MAX_VALUE), Due.BEYOND);
        due.is("copy far below", x.copy(0, Integer.MIN_VALUE, 1, Integer.MIN_VALUE, Integer.MIN_VALUE), Due.BEYOND);
        due.is("other bits, ahead of BEYOND", x.copy(0, -1, 2, 0, 1), Due.KIND);
        due.is("missing, ahead of BEYOND", x.copy(0, -1, 3, 0, 1), Due.MISSING);
        due.is("missing, ahead of BEYOND", x.copy(3, -1, 0, 0, 1), Due.MISSING);
        due.is("missing both", x.copy(3, 0, 3, 0, 0), Due.MISSING);
        due.is("no such sheet, ahead of MISSING", x.copy(3, 0, 4, 0, 1), Due.BEYOND);
        due.is("no such sheet, ahead of MISSING", x.copy(-1, 0, 3, 0, 1), Due.BEYOND);
        rowIs(x, 0, 5, "2 3 4 3 4 ");
        rowIs(x, 1, 3, "2 3 4 ");
    }

    private static void toTheBook() {
        SnowLetters x = new SnowLetters();
        x.sheet(0, 64, 40);
        x.sign(1, 11);
        x.sign(2, 12);
        x.sign(3, 13);
        x.write(0, 0, 4095);
        x.write(0, 1, 4096);
        x.write(0, 2, -1);
        x.write(0, 3, 0);
        x.write(0, 4, 1L << 32 | 5);
        x.write(0, 25, 9);
        x.write(0, 26, 8);
        x.sign(4, 44);
        due.is("lays", x.lays(0), 23);
        due.is("form(0)", x.form(0), 4095);
        due.is("form(1): left out", x.form(1), 11);
        due.is("form(2): left out", x.form(2), 12);
        due.is("form(3): none now", x.form(3), 0);
        due.is("form(4): left out", x.form(4), 44);
        due.is("form(25)", x.form(25), 9);
        x.sheet(1, 8, 2);
        x.write(1, 0, 255);
        x.write(1, 1, 127);
        due.is("lays", x.lays(1), 1);
        due.is("form(0): left out", x.form(0), 4095);
        due.is("form(1)", x.form(1), 127);
        due.is("form(2): the sheet ends ahead of it", x.form(2), 12);
        x.sheet(1, 8, 0);
        due.is("lays of none", x.lays(1), 0);
    }

    private static void showing() {
        SnowLetters x = new SnowLetters();
        x.sheet(0, 8, 4);
        due.is("show, no letters", x.show(0), 0);
        x.letter(0, 3);
        x.letter(0, 12);
        for (int i = 0; i < 4; i++) {
            x.write(0, i, 77);
        }
        due.is("show, empty book", x.show(0), 2);
        rowIs(x, 0, 4, "-1 -1 77 77 ");
        x.sign(25, 3);
        x.sign(7, 12);
        due.is("show", x.show(0), 2);
        rowIs(x, 0, 4, "25 7 77 77 ");
        x.sun(3);
        x.hours(6);
        x.letter(3, 3);
        x.sheet(1, 64, 2);
        due.is("show, as far as it has numbers", x.show(1), 2);
        rowIs(x, 1, 2, "7 7 ");
        due.is("show by what they show", x.show(0), 3);
        rowIs(x, 0, 4, "7 7 7 77 ");
    }

    private static int walk(int form, long... points) {
        SnowLetters x = new SnowLetters();
        x.sheet(2, 64, points.length);
        for (int i = 0; i < points.length; i++) {
            x.write(2, i, points[i]);
        }
        return x.walk(2, form);
    }

    private static void walking() {
        due.is("a square", walk(197, 0, 1, 4, 3, 0), 0);
        due.is("the other way round", walk(197, 4, 1, 0, 3, 4), 0);
        due.is("too short", walk(197, 0, 1, 4, 3), 5);
        due.is("no stroke twice", walk(1, 0, 1, 0), 3);
        due.is("no step on the spot", walk(1, 0, 0, 1), 2);
        due.is("no stroke between", walk(4095, 0, 2), 2);
        due.is("2 and 3 are no neighbours", walk(4095, 2, 3), 2);
        due.is("not of the form", walk(1, 1, 2), 2);
        due.is("not a point", walk(1, 9), 1);
        due.is("not a point", walk(1, -1, 0, 1), 1);
        due.is("not a point", walk(1, 0, 1, 9), 3);
        due.is("not a point, by its high bits", walk(1, 0, 1L << 32 | 1), 2);
        due.is("nothing of nothing", walk(0), 0);
        due.is("standing still on nothing", walk(0, 8), 0);
        due.is("a step on nothing", walk(0, 8, 7), 2);
        due.is("nothing of something", walk(1), 1);
        due.is("a point of something", walk(1, 0), 2);
        due.is("down", walk(2048 + 256, 2, 5, 8), 0);
        due.is("eight", walk(199 + 3072, 0, 1, 4, 3, 0), 6);
        SnowLetters x = new SnowLetters();
        x.sheet(0, 8, 1);
        due.is("no form", x.walk(0, 4096), Due.BEYOND);
        due.is("no form", x.walk(0, -1), Due.BEYOND);
        due.is("missing, ahead of the form", x.walk(1, -1), Due.MISSING);
        due.is("no such sheet", x.walk(4, -1), Due.BEYOND);
        SnowLetters y = new SnowLetters();
        y.sheet(0, 8, 3);
        y.sheet(1, 8, 11);
        int form = 4095 & ~(1 << 0 | 1 << 6);
        for (int p = 0; p < 9; p++) {
            int here = p;
            y.write(1, 0, p);
            for (int i = 0; i < 10; i++) {
                int stroke = y.ith(form, p, i);
                here = stroke < 0 ? 0 : end(stroke, here);
                y.write(1, i + 1, here);
            }
            due.is("the first way from " + p + " is a walk", y.walk(1, form) == 0 ? 1 : 0, y.ways(form, p) > 0 ? 1 : 0);
        }
    }

    private static int end(int stroke, int point) {
        int[] one = {0, 1, 3, 4, 6, 7, 0, 1, 2, 3, 4, 5};
        int[] other = {1, 2, 4, 5, 7, 8, 3, 4, 5, 6, 7, 8};
        return one[stroke] == point ? other[stroke] : one[stroke];
    }

    private static void wrongSheets() {
        SnowLetters x = new SnowLetters();
        for (int s : NO_SHEETS) {
            due.is("sheet", x.sheet(s, 8, 1), Due.BEYOND);
            due.is("write", x.write(s, 0, 1), Due.BEYOND);
            due.is("copy from", x.copy(s, 0, 0, 0, 0), Due.BEYOND);
            due.is("copy to", x.copy(0, 0, s, 0, 0), Due.BEYOND);
            due.is("lays", x.lays(s), Due.BEYOND);
            due.is("show", x.show(s), Due.BEYOND);
            due.is("walk", x.walk(s, 0), Due.BEYOND);
        }
        due.is("status(0)", x.status(0), 28);
        for (int s = 0; s < 4; s++) {
            due.is("write", x.write(s, -1, 1), Due.MISSING);
            due.is("lays", x.lays(s), Due.MISSING);
            due.is("show", x.show(s), Due.MISSING);
            due.is("walk", x.walk(s, 0), Due.MISSING);
        }
        due.is("status(5)", x.status(5), 16);
        due.is("status(-1)", x.status(-1), 44);
    }
}
