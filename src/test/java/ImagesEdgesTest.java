/** Promises 1 and 41 to 45 at their edges: a test of its own for each sentence that names one. */
public final class ImagesEdgesTest {
    private static final Due due = new Due();
    private static final Edges edges = new Edges(due);

    public static void main(String[] args) {
        newObject();
        image();
        undo();
        undoTakesNothingElse();
        tear();
        count();
        status();
        statusCountsItself();
        allCalls();
        due.end("ImagesEdgesTest");
    }

    private static void newObject() {
        SnowLetters x = new SnowLetters();
        due.is("1 new: no letters", x.count(0), 0);
        due.is("1 new: the book is empty", x.count(1), 0);
        due.is("1 new: the tape is empty", x.count(2), 0);
        due.is("1 new: no strokes", x.count(3), 0);
        due.is("1 new: hour 0", x.now(0), 0);
        due.is("1 new: no sun", x.now(1), 0);
        due.is("1 new: no finding", x.status(-1), 0);
        due.is("1 new: no image is kept", x.tear(), 0);
        due.is("1 new: the first letter's number", x.letter(0, 0), 0);
        edges.refused("1 new: no image is kept", Edges.EMPTY, y -> y.undo(), Due.NONE);
        for (int s = 0; s < 4; s++) {
            int t = s;
            edges.refused("1 new: all sheets are missing", Edges.EMPTY, y -> y.show(t), Due.MISSING);
        }
    }

    private static void image() {
        SnowLetters x = new SnowLetters();
        due.is("41 image: of nothing", x.image(), 1);
        x.letter(0, 1);
        x.sign(0, 1);
        x.sun(1);
        x.hours(1);
        due.is("42 undo: to nothing", x.undo(), 0);
        due.is("42 undo: no letters", x.count(0), 0);
        due.is("42 undo: no signs", x.count(1), 0);
        due.is("42 undo: no sun", x.now(1), 0);
        due.is("42 undo: hour 0", x.now(0), 0);
        x.letter(0, 7);
        due.is("41 image: the later one", x.image(), 1);
        x.letter(0, 7);
        due.is("41 image: once more", x.image(), 1);
        x.letter(0, 7);
        due.is("42 undo: what was kept latest", x.undo(), 2);
        due.is("42 undo: no earlier one comes", x.undo(), 2);
        edges.like("41 image: nothing changes but what is kept", Edges.BUSY, y -> y.image(), 1, y -> {
            y.tear();
            return y.image();
        });
        SnowLetters full = Edges.FULL.get();
        full.image();
        full.undo();
        edges.same("42 undo: all of the most there can be", State.of(full), State.of(imaged(Edges.FULL.get())));
    }

    private static SnowLetters imaged(SnowLetters x) {
        x.image();
        return x;
    }

    private static void undo() {
        edges.refused("42 undo: nothing is kept", Edges.EMPTY, x -> x.undo(), Due.NONE);
        edges.refused("42 undo: torn", () -> torn(Edges.BUSY.get()), x -> x.undo(), Due.NONE);
        edges.refused("42 undo: torn", () -> torn(Edges.FULL.get()), x -> x.undo(), Due.NONE);
        edges.like("42 undo: twice is once", Edges.BUSY, x -> x.undo(), 2, x -> {
            x.undo();
            return x.undo();
        });
        SnowLetters x = Edges.FULL.get();
        due.is("42 undo: twelve letters", x.undo(), 12);
        due.is("42 undo: the hour that was", x.now(0), 990);
        due.is("42 undo: the sun that was", x.now(1), 0);
        due.is("42 undo: hours can go again", x.hours(9), 0);
        due.is("42 undo: up to 999", x.hours(1), Due.STATE);
        SnowLetters y = Edges.BUSY.get();
        due.is("42 undo: fewer letters", y.undo(), 2);
        due.is("42 undo: the last one left", y.of(1, 1), 197);
        due.is("42 undo: none behind it", y.of(2, 1), Due.BEYOND);
        due.is("42 undo: a sign without form again", y.form(25), 0);
        due.is("42 undo: the next letter's number", y.letter(0, 1), 2);
        due.is("42 undo: is deep 6, whatever was there", y.of(2, 2), 6);
    }

    private static SnowLetters torn(SnowLetters x) {
        x.tear();
        return x;
    }

    private static void undoTakesNothingElse() {
        SnowLetters x = new SnowLetters();
        x.image();
        x.odd(-1);
        x.undo();
        due.is("45 status: undo takes none back", x.status(0), 1);
        x.sheet(0, 8, 1);
        x.write(0, 0, 5);
        x.feed(0, 4);
        x.undo();
        due.is("42 undo: the tape stays", x.count(2), 4);
        due.is("42 undo: sheets stay", x.write(0, 0, 0), 5);
    }

    private static void tear() {
        SnowLetters x = new SnowLetters();
        due.is("43 tear: nothing was kept", x.tear(), 0);
        x.image();
        due.is("43 tear: something was", x.tear(), 1);
        due.is("43 tear: now nothing is", x.tear(), 0);
        due.is("43 tear: no finding", x.status(-1), 0);
        x.image();
        x.image();
        due.is("43 tear: two images are one", x.tear(), 1);
        due.is("43 tear: nothing is left", x.undo(), Due.NONE);
        x.image();
        x.undo();
        due.is("43 tear: undo keeps it", x.tear(), 1);
        edges.asked("43 tear: nothing changes in a new object", Edges.EMPTY, y -> y.tear(), 0);
        SnowLetters y = Edges.BUSY.get();
        y.tear();
        due.is("43 tear: the letters stay", y.count(0), 6);
    }

    private static void count() {
        int[] busy = {6, 4, 24, 2 + 4 + 2 + 1 + 1 + 2};
        int strokes = 0;
        for (int letter = 0; letter < 12; letter++) {
            strokes += Integer.bitCount(300 * letter + 11);
        }
        int[] full = {12, 26, 120, strokes};
        for (int what = 0; what < 4; what++) {
            int w = what;
            edges.asked("44 count: nothing, what " + w, Edges.EMPTY, x -> x.count(w), 0);
            edges.asked("44 count: some, what " + w, Edges.BUSY, x -> x.count(w), busy[w]);
            edges.asked("44 count: all, what " + w, Edges.FULL, x -> x.count(w), full[w]);
        }
        edges.outside("44 count: another what", (x, v) -> x.count(v), 0, 3);
        SnowLetters x = new SnowLetters();
        for (int i = 0; i < 12; i++) {
            x.letter(4, 4095);
        }
        due.is("44 count: strokes of twelve full ones", x.count(3), 144);
        x.sun(4095);
        x.hours(99);
        due.is("44 count: strokes of their forms, melted or not", x.count(3), 144);
    }

    private static void status() {
        for (int which = -1; which < 7; which++) {
            int w = which;
            edges.asked("45 status: none yet, which " + w, x -> x.status(w), 0);
        }
        edges.outside("45 status: another one", (x, v) -> x.status(v), -1, 6);
    }

    private static void statusCountsItself() {
        SnowLetters x = new SnowLetters();
        due.is("45 status: below", x.status(-2), Due.BEYOND);
        due.is("45 status: counted from then on", x.status(0), 1);
        due.is("45 status: above", x.status(7), Due.BEYOND);
        due.is("45 status: counted from then on", x.status(-1), 2);
        x.read(0);
        due.is("45 status: each by itself", x.status(3), 1);
        due.is("45 status: each by itself", x.status(0), 2);
        due.is("45 status: all", x.status(-1), 3);
        x.ways(-1, 0);
        x.write(0, 0, 0);
        due.is("45 status: findings in longs, too", x.status(0), 3);
        due.is("45 status: findings in longs, too", x.status(5), 1);
        SnowLetters y = new SnowLetters();
        due.is("45 status: of another object", y.status(-1), 0);
    }

    /** An object is good for 512 calls, whatever these are. */
    private static void allCalls() {
        SnowLetters x = new SnowLetters();
        for (int i = 0; i < 511; i++) {
            x.form(26);
        }
        due.is("45 status: the 512th call", x.status(-1), 511);
        SnowLetters y = new SnowLetters();
        for (int i = 0; i < 509; i++) {
            y.image();
        }
        y.sign(0, 4095);
        due.is("42 undo: behind 510 calls", y.undo(), 0);
        due.is("11 form: the 512th call", y.form(0), 0);
    }
}
