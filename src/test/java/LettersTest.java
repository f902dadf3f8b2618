/** Promises 17 to 27: LETTERS, SUN and HOURS. */
public final class LettersTest {
    private static final Due due = new Due();

    public static void main(String[] args) {
        makingLetters();
        kindsLastAndShow();
        feet();
        setting();
        turning();
        asOneOfAKind();
        sunAndHours();
        nowOfAll();
        nowOfTwelve();
        onAndWhen();
        kindForFeet();
        wrongInputs();
        due.end("LettersTest");
    }

    private static void makingLetters() {
        SnowLetters x = new SnowLetters();
        for (int i = 0; i < 12; i++) {
            due.is("letter", x.letter(i % 6, i), i);
        }
        due.is("a 13th", x.letter(0, 0), Due.FULL);
        due.is("a 13th of no kind", x.letter(6, 0), Due.BEYOND);
        due.is("count(0)", x.count(0), 12);
        due.is("of(11, 0)", x.of(11, 0), 5);
        due.is("of(11, 1)", x.of(11, 1), 11);
        due.is("of(11, 2)", x.of(11, 2), 6);
        due.is("status(1)", x.status(1), 1);
    }

    private static void kindsLastAndShow() {
        SnowLetters x = new SnowLetters();
        int[] lasts = {7, 14, 3, 7, 14, 7};
        int[] whole = {4095, 4095, 4095, 4095, 4095, 4095};
        int[] melted = {0, 0, 0, 12, 48, 0};
        for (int kind = 0; kind < 6; kind++) {
            x.letter(kind, 4095);
            x.set(kind, 2, 7);
            due.is("lasts of kind " + kind, x.of(kind, 3), lasts[kind]);
        }
        x.sun(4095);
        for (int hour = 0; hour < 20; hour++) {
            for (int kind = 0; kind < 6; kind++) {
                int want = hour < lasts[kind] ? whole[kind] : melted[kind];
                due.is("kind " + kind + " shows at " + hour, x.of(kind, 4), want);
            }
            x.hours(1);
        }
        SnowLetters y = new SnowLetters();
        y.letter(3, 1);
        y.letter(4, 1);
        y.letter(0, 63);
        y.sun(21);
        due.is("a crossed one is crossed from the first", y.of(0, 4), 13);
        due.is("an underlined one is underlined from the first", y.of(1, 4), 49);
        y.hours(12);
        due.is("the cross stays", y.of(0, 4), 12);
        due.is("the line stays", y.of(1, 4), 48);
        due.is("only what the sun is on melts", y.of(2, 4), 42);
        y.sun(0);
        due.is("no sun, nothing is lost", y.of(2, 4), 63);
        SnowLetters z = new SnowLetters();
        z.letter(0, 3);
        z.set(0, 2, 0);
        z.sun(1);
        due.is("what lasts no hour is melted at once", z.of(0, 4), 2);
    }

    private static void feet() {
        SnowLetters x = new SnowLetters();
        int[] ofOne = {1, 2, 1, 3, 4, 1};
        int[] ofTwoPieces = {3, 6, 3, 5, 8, 3};
        int[] ofAll = {13, 26, 13, 15, 28, 13};
        int[] ofNone = {0, 0, 0, 2, 2, 0};
        for (int kind = 0; kind < 6; kind++) {
            x.letter(kind, 1);
            due.is("feet of 1, kind " + kind, x.of(kind, 5), ofOne[kind]);
            x.set(kind, 1, 33);
            due.is("feet of 33, kind " + kind, x.of(kind, 5), ofTwoPieces[kind]);
            x.set(kind, 1, 4095);
            due.is("feet of 4095, kind " + kind, x.of(kind, 5), ofAll[kind]);
            x.set(kind, 1, 0);
            due.is("feet of 0, kind " + kind, x.of(kind, 5), ofNone[kind]);
        }
        x.set(0, 1, 33);
        x.sun(33);
        x.hours(99);
        due.is("feet are those of the form, melted or not", x.of(0, 5), 3);
    }

    private static void setting() {
        SnowLetters x = new SnowLetters();
        x.letter(1, 5);
        due.is("set form", x.set(0, 1, 4095), 5);
        due.is("set form", x.set(0, 1, 0), 4095);
        due.is("set deep", x.set(0, 2, 99), 6);
        due.is("set deep", x.set(0, 2, 0), 99);
        due.is("of form", x.of(0, 1), 0);
        due.is("of deep", x.of(0, 2), 0);
        due.is("set deep", x.set(0, 2, 50), 0);
        due.is("a form that is none", x.set(0, 1, 4096), Due.BEYOND);
        due.is("a form that is none", x.set(0, 1, -1), Due.BEYOND);
        due.is("too deep", x.set(0, 2, 100), Due.BEYOND);
        due.is("too deep", x.set(0, 2, -1), Due.BEYOND);
        due.is("the kind is not set", x.set(0, 0, 1), Due.BEYOND);
        due.is("nor what it lasts", x.set(0, 3, 1), Due.BEYOND);
        due.is("no such letter", x.set(1, 1, 1), Due.BEYOND);
        due.is("of form", x.of(0, 1), 0);
        due.is("of deep", x.of(0, 2), 50);
        due.is("status(0)", x.status(0), 7);
    }

    private static void turning() {
        SnowLetters x = new SnowLetters();
        x.letter(0, 9);
        x.set(0, 2, 40);
        due.is("turn", x.turn(0, 5), 0);
        due.is("turn", x.turn(0, 1), 5);
        due.is("turn to what it is", x.turn(0, 1), 1);
        due.is("form stays", x.of(0, 1), 9);
        due.is("deep stays", x.of(0, 2), 40);
        due.is("lasts by its kind", x.of(0, 3), 80);
        due.is("no such kind", x.turn(0, 6), Due.BEYOND);
        due.is("no such kind", x.turn(0, -1), Due.BEYOND);
        due.is("no such letter", x.turn(1, 0), Due.BEYOND);
        due.is("kind", x.of(0, 0), 1);
    }

    private static void asOneOfAKind() {
        SnowLetters x = new SnowLetters();
        String[] uppers = {"0", "01", "02", "03", "014", "025"};
        for (int kind = 0; kind < 6; kind++) {
            x.letter(kind, 0);
            x.set(kind, 2, 10 + kind);
            for (int upper = 0; upper < 6; upper++) {
                int want = uppers[kind].indexOf('0' + upper) >= 0 ? 10 + kind : Due.KIND;
                due.is("as(" + kind + ", " + upper + ")", x.as(kind, upper), want);
            }
        }
        due.is("as one of no kind", x.as(0, 6), Due.BEYOND);
        due.is("as one of no kind", x.as(0, -1), Due.BEYOND);
        due.is("as of no letter", x.as(6, 0), Due.BEYOND);
        due.is("status(2)", x.status(2), 36 - 13);
        due.is("status(0)", x.status(0), 3);
    }

    private static void sunAndHours() {
        SnowLetters x = new SnowLetters();
        due.is("now(0)", x.now(0), 0);
        due.is("now(1)", x.now(1), 0);
        due.is("sun", x.sun(4095), 0);
        due.is("sun", x.sun(5), 4095);
        due.is("now(1)", x.now(1), 5);
        due.is("no such sun", x.sun(4096), Due.BEYOND);
        x.letter(0, 1);
        x.letter(0, 2);
        x.letter(3, 4);
        x.letter(2, 4);
        due.is("hours(2)", x.hours(2), 0);
        due.is("hours(1): the soft one", x.hours(1), 1);
        due.is("hours(3): the first; 2 is not in the sun, the cross hides 4", x.hours(3), 1);
        due.is("hours(99)", x.hours(99), 0);
        due.is("hours(0)", x.hours(0), Due.BEYOND);
        due.is("hours(100)", x.hours(100), Due.BEYOND);
        due.is("now(0)", x.now(0), 105);
        for (int i = 0; i < 9; i++) {
            x.hours(99);
        }
        due.is("now(0)", x.now(0), 996);
        due.is("hours(4)", x.hours(4), Due.STATE);
        due.is("hours(100), ahead of STATE", x.hours(100), Due.BEYOND);
        due.is("hours(3)", x.hours(3), 0);
        due.is("now(0)", x.now(0), 999);
        due.is("hours(1)", x.hours(1), Due.STATE);
        due.is("status(4)", x.status(4), 2);
        due.is("status(0)", x.status(0), 4);
    }

    private static void nowOfAll() {
        SnowLetters x = new SnowLetters();
        due.is("now(2), no letters", x.now(2), 0);
        due.is("now(3), no letters", x.now(3), 0);
        x.letter(1, 3);
        x.letter(0, 33);
        x.letter(3, 3);
        due.is("now(2)", x.now(2), 4 + 3 + 4);
        due.is("now(3), empty book", x.now(3), 0);
        x.sign(0, 3);
        x.sign(1, 12);
        x.sign(2, 48);
        due.is("now(3): none is misread", x.now(3), 0);
        x.set(2, 1, 1);
        due.is("now(3): 1 crossed is read as 12", x.now(3), 4);
        x.turn(0, 3);
        x.set(0, 1, 1);
        due.is("now(3): the first one, too", x.now(3), 5);
        due.is("of(2, 6)", x.of(2, 6), 0);
        due.is("of(2, 7)", x.of(2, 7), 1);
        due.is("now(4)", x.now(4), Due.BEYOND);
        due.is("now(-1)", x.now(-1), Due.BEYOND);
    }

    private static void nowOfTwelve() {
        SnowLetters x = new SnowLetters();
        for (int i = 0; i < 12; i++) {
            x.letter(0, 7);
        }
        x.sign(0, 7);
        x.sign(1, 4);
        x.sun(3);
        due.is("now(2)", x.now(2), 48);
        due.is("now(3)", x.now(3), 0);
        due.is("count(3)", x.count(3), 36);
        due.is("best", x.best(48), 4095);
        due.is("worth", x.worth(48), 12 * 13);
        due.is("best", x.best(4), 1);
        due.is("hours", x.hours(6), 12);
        due.is("now(3)", x.now(3), 4095);
        due.is("worth", x.worth(47), 11);
        due.is("best: of several the least", x.best(47), 2047);
    }

    private static void onAndWhen() {
        SnowLetters x = new SnowLetters();
        x.letter(0, 7);
        due.is("when, empty book", x.when(0), Due.NONE);
        x.sign(4, 7);
        x.sign(5, 4);
        due.is("when, no sun", x.when(0), Due.NONE);
        x.sun(3);
        due.is("on(0, 0)", x.on(0, 0), 7);
        due.is("on(0, 5)", x.on(0, 5), 7);
        due.is("on(0, 6)", x.on(0, 6), 4);
        due.is("when", x.when(0), 6);
        x.set(0, 2, 99);
        due.is("when, at the last of 99", x.when(0), 99);
        x.turn(0, 1);
        due.is("when, too late", x.when(0), Due.NONE);
        x.turn(0, 0);
        x.set(0, 2, 0);
        due.is("when, at once", x.when(0), 0);
        due.is("nothing changes by it", x.now(0), 0);
        due.is("on(0, 99)", x.on(0, 99), 4);
        due.is("on(0, 100)", x.on(0, 100), Due.BEYOND);
        due.is("on(0, -1)", x.on(0, -1), Due.BEYOND);
        due.is("on of none", x.on(1, 0), Due.BEYOND);
        due.is("when of none", x.when(1), Due.BEYOND);
        for (int i = 0; i < 9; i++) {
            x.hours(99);
        }
        x.hours(9);
        due.is("when at 900", x.when(0), 0);
        due.is("on at 900", x.on(0, 99), 4);
        x.hours(1);
        due.is("when at 901", x.when(0), Due.STATE);
        due.is("when at 901, no letter", x.when(1), Due.BEYOND);
        due.is("on at 901", x.on(0, 98), 4);
        due.is("on at 901", x.on(0, 99), Due.STATE);
        due.is("on at 901", x.on(0, 100), Due.BEYOND);
        x.sign(4, 0);
        x.sign(5, 0);
        due.is("when at 901, empty book", x.when(0), Due.STATE);
    }

    private static void kindForFeet() {
        SnowLetters x = new SnowLetters();
        x.letter(3, 1);
        x.set(0, 2, 99);
        due.is("kind: 9900 as a letter and as a capital", x.kind(0), 0);
        x.set(0, 2, 8);
        due.is("kind: 800 as a letter, a capital and an icy one", x.kind(0), 0);
        x.set(0, 2, 7);
        due.is("kind: 700 as a letter, a capital and an icy one", x.kind(0), 0);
        x.set(0, 2, 6);
        due.is("kind: 700 as an icy one", x.kind(0), 5);
        x.set(0, 2, 0);
        due.is("kind: only an icy one lasts", x.kind(0), 5);
        x.set(0, 1, 0);
        due.is("kind: of no feet, no depth", x.kind(0), 0);
        x.set(0, 2, 1);
        due.is("kind: 50 as crossed, 100 as underlined", x.kind(0), 4);
        due.is("kind of none", x.kind(1), Due.BEYOND);
    }

    private static void wrongInputs() {
        SnowLetters x = new SnowLetters();
        x.letter(0, 1);
        for (int bad : new int[] {-1, 1, 12, Integer.MIN_VALUE, Integer.MAX_VALUE}) {
            due.is("of", x.of(bad, 0), Due.BEYOND);
            due.is("set", x.set(bad, 1, 0), Due.BEYOND);
            due.is("turn", x.turn(bad, 0), Due.BEYOND);
            due.is("as", x.as(bad, 0), Due.BEYOND);
            due.is("on", x.on(bad, 0), Due.BEYOND);
            due.is("when", x.when(bad), Due.BEYOND);
            due.is("kind", x.kind(bad), Due.BEYOND);
        }
        for (int bad : new int[] {-1, 8, Integer.MIN_VALUE, Integer.MAX_VALUE}) {
            due.is("of what", x.of(0, bad), Due.BEYOND);
            due.is("letter of no kind", x.letter(bad, 0), Due.BEYOND);
            due.is("turn to no kind", x.turn(0, bad), Due.BEYOND);
            due.is("as of no kind", x.as(0, bad), Due.BEYOND);
            due.is("set what", x.set(0, bad, 0), Due.BEYOND);
            due.is("now what", x.now(bad), Due.BEYOND);
        }
        for (int bad : new int[] {-1, 4096, Integer.MIN_VALUE, Integer.MAX_VALUE}) {
            due.is("letter of no form", x.letter(0, bad), Due.BEYOND);
            due.is("sun of no strokes", x.sun(bad), Due.BEYOND);
            due.is("hours", x.hours(bad), Due.BEYOND);
            due.is("on", x.on(0, bad), Due.BEYOND);
        }
        due.is("count(0)", x.count(0), 1);
        due.is("now(0)", x.now(0), 0);
        due.is("now(1)", x.now(1), 0);
        due.is("status(-1)", x.status(-1), 35 + 24 + 16);
    }
}
