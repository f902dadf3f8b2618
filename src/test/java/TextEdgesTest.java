import java.util.function.Supplier;

/** Promises 32 to 34 at their edges: a test of its own for each sentence that names one. */
public final class TextEdgesTest {
    private static final Due due = new Due();
    private static final Edges edges = new Edges(due);

    public static void main(String[] args) {
        feed();
        feedFull();
        feedBytes();
        wipe();
        fieldEmptiesTheTape();
        numbers();
        longestTokens();
        blanks();
        endsTooEarly();
        tokensThatCantStand();
        thirteenth();
        asByThen();
        manyItems();
        faultsChangeNothing();
        due.end("TextEdgesTest");
    }

    private static Supplier<SnowLetters> tape(int bytes) {
        return () -> {
            SnowLetters x = new SnowLetters();
            Due.feed(x, ";".repeat(bytes));
            return x;
        };
    }

    /** THE TAPE of an object becomes a text; no image, no SHEETS. */
    private static Supplier<SnowLetters> fed(Supplier<SnowLetters> scene, String text) {
        return () -> {
            SnowLetters x = scene.get();
            x.wipe();
            Due.feed(x, text);
            return x;
        };
    }

    private static void feed() {
        SnowLetters x = new SnowLetters();
        for (int n = 1; n <= 4; n++) {
            due.is("32 feed: " + n + " bytes", x.feed(0, n), n * (n + 1) / 2);
        }
        edges.outside("32 feed: n", Edges.EMPTY, (y, v) -> y.feed(';', v), 1, 4);
        edges.outside("32 feed: n", Edges.BUSY, (y, v) -> y.feed(';', v), 1, 4);
        edges.outside("32 feed: n, ahead of FULL", Edges.FULL, (y, v) -> y.feed(';', v), 1, 4);
    }

    private static void feedFull() {
        for (int n = 1; n <= 4; n++) {
            int bytes = n;
            edges.refused("32 feed: full, " + n + " more", tape(120), x -> x.feed(';', bytes), Due.FULL);
            edges.refused("32 feed: one too many of " + n, tape(121 - n), x -> x.feed(';', bytes), Due.FULL);
            due.is("32 feed: " + n + " just fit", tape(120 - n).get().feed(';', n), 120);
        }
        SnowLetters x = tape(120).get();
        x.wipe();
        due.is("32 feed: wiped, there is room again", x.feed(';', 4), 4);
        SnowLetters y = tape(120).get();
        y.field();
        due.is("32 feed: told, there is room again", y.feed(';', 4), 4);
    }

    /** Bytes above the n lowest don't come; a byte is 0 to 255, not below 0. */
    private static void feedBytes() {
        SnowLetters x = new SnowLetters();
        x.feed(0x7f7f0000 | 's' << 8 | 'u', 2);
        x.feed(-1 << 8 | 'n', 1);
        x.feed(-1 << 24 | ' ' << 16 | '4' << 8 | '0', 3);
        x.feed('9' << 24 | '5' << 16 | ' ' << 8 | ' ', 4);
        due.is("32 feed: the highest of the lowest first", x.field(), 1);
        due.is("32 feed: sun 4095", x.now(1), 4095);
        for (int high = 128; high < 256; high++) {
            SnowLetters y = new SnowLetters();
            Due.feed(y, "sun 7");
            y.feed(high, 1);
            due.is("34 field: byte " + high + " begins no token", y.field(), -6);
        }
    }

    private static void wipe() {
        SnowLetters x = new SnowLetters();
        due.is("33 wipe: it had none", x.wipe(), 0);
        x.feed(0, 1);
        due.is("33 wipe: it had one", x.wipe(), 1);
        due.is("33 wipe: it is empty", x.count(2), 0);
        due.is("33 wipe: it had 120", tape(120).get().wipe(), 120);
        edges.asked("33 wipe: nothing changes in a new object", Edges.EMPTY, y -> y.wipe(), 0);
        SnowLetters y = fed(Edges.EMPTY, "sun 5;").get();
        y.wipe();
        due.is("33 wipe: nothing of it is left", Due.field(y, "sun 6"), 1);
        due.is("33 wipe: now", y.now(1), 6);
    }

    private static void fieldEmptiesTheTape() {
        SnowLetters x = new SnowLetters();
        due.is("34 field: an empty tape ends too early", x.field(), -1);
        due.is("34 field: a text", Due.field(x, "sun 5"), 1);
        due.is("34 field: the tape is empty then", x.count(2), 0);
        due.is("34 field: so it ends too early again", x.field(), -1);
        due.is("34 field: a fault", Due.field(x, "sun 5;x"), -7);
        due.is("34 field: the tape is empty by a fault, too", x.count(2), 0);
        due.is("34 field: no finding", x.status(-1), 0);
    }

    private static int told(String text) {
        return Due.field(new SnowLetters(), text);
    }

    private static void fault(String sentence, String text, int place) {
        due.is("34 fault: " + sentence + ": " + text, told(text), -1 - place);
        edges.like("34 fault: " + sentence + ", nothing changes but the tape: " + text, fed(Edges.EMPTY, text),
            x -> x.field(), -1 - place, x -> x.wipe());
    }

    /** The last NUMBER that may be, and the first that may not. */
    private static void numbers() {
        due.is("34 field: the first sign", told("sign 0 1"), 1);
        due.is("34 field: the last sign", told("sign 25 1"), 1);
        fault("a sign that may not be", "sign 26 1", 5);
        fault("a sign that may not be, far above", "sign 4294967296 1", 5);
        due.is("34 field: a sign loses its form", told("sign 0 0"), 1);
        due.is("34 field: a sign's last form", told("sign 0 4095"), 1);
        fault("a sign's form that may not be", "sign 0 4096", 7);
        due.is("34 field: the empty form", told("letter form 0"), 1);
        due.is("34 field: the last form", told("letter form 4095"), 1);
        fault("a form that may not be", "letter form 4096", 12);
        due.is("34 field: as the first sign", told("letter as 0"), 1);
        due.is("34 field: as the last sign", told("letter as 25"), 1);
        fault("as a sign that may not be", "letter as 26", 10);
        due.is("34 field: not deep at all", told("letter form 1 deep 0"), 1);
        due.is("34 field: as deep as can be", told("letter form 1 deep 99"), 1);
        fault("deep that may not be", "letter form 1 deep 100", 19);
        fault("deep that may not be", "letter as 1 deep 4095", 17);
        due.is("34 field: sun on none", told("sun 0"), 1);
        due.is("34 field: sun on all", told("sun 4095"), 1);
        fault("a sun that may not be", "sun 4096", 4);
        fault("a sun that comes round to 0 in 32 bits", "sun 4294967296", 4);
        fault("a sun that comes round to 5 in 64 bits", "sun 18446744073709551621", 4);
        due.is("34 field: zeros ahead", told("sun 00004095"), 1);
        fault("zeros ahead of too much", "sun 00004096", 4);
        fault("a number below 0", "sun -1", 4);
        SnowLetters x = new SnowLetters();
        Due.field(x, "icy form 4095 deep 99;soft form 0 deep 0;capital form 9;sign 25 4095;sign 0 1;sun 4095");
        due.is("34 field: the last form comes", x.of(0, 1), 4095);
        due.is("34 field: deep 99 comes", x.of(0, 2), 99);
        due.is("34 field: the empty form comes", x.of(1, 1), 0);
        due.is("34 field: deep 0 comes", x.of(1, 2), 0);
        due.is("34 field: deep 6 without", x.of(2, 2), 6);
        due.is("34 field: the last sign comes", x.form(25), 4095);
        due.is("34 field: the first sign comes", x.form(0), 1);
        due.is("34 field: all sun comes", x.now(1), 4095);
    }

    private static void longestTokens() {
        due.is("34 token: a word ends at a digit", told("sun5;sign1 1"), 2);
        due.is("34 token: a number ends at a letter", told("letter form1deep2"), 1);
        fault("a word as long as can be", "sunsign 1 1", 0);
        fault("a word as long as can be", "letterform 1", 0);
        fault("a word as long as can be", "letter formas 1", 7);
        fault("a number as long as can be", "sign 11", 7);
        fault("a number as long as can be, though its beginning might be", "sign 251 1", 5);
        fault("a word that begins like another", "let form 1", 0);
        fault("a word that goes on behind another", "icys form 1", 0);
        fault("a capital letter", "Icy form 1", 0);
        fault("a capital letter in a word", "iCy form 1", 0);
    }

    private static void blanks() {
        due.is("34 blanks: ahead and behind", told("  sun 5  "), 1);
        due.is("34 blanks: around the sign", told("sun 5 ; sun 6"), 2);
        due.is("34 blanks: as many as the tape has room for", told("sun" + " ".repeat(116) + "5"), 1);
        fault("a blank parts a word", "su n 5", 0);
        fault("a blank parts a number", "sun 4 5", 6);
        fault("a tab is no blank", "sun\t5", 3);
        fault("a line's end is no blank", "sun 5\n", 5);
        fault("byte 0 begins no token", "sun 5\u0000", 5);
    }

    private static void endsTooEarly() {
        String[] texts = {"", " ", "          ", "sign", "sign ", "sign 1", "sign 1 ", "letter", "capital", "soft ",
            "crossed", "underlined ", "icy", "icy form", "icy form ", "icy as", "icy as ", "icy form 1 deep",
            "icy as 1 deep ", "sun", "sun ", "sun 5;", "sun 5 ; ", "sign 1 1;", "icy form 1;", "icy as 1 deep 2 ;"};
        for (String text : texts) {
            fault("it ends too early", text, text.length());
        }
        SnowLetters x = new SnowLetters();
        due.is("34 field: a longer text ahead", Due.field(x, "icy form 1 deep 2;sign 1 1;sun 5"), 3);
        due.is("34 fault: nothing of the text ahead is taken for what it lacks", Due.field(x, "icy form"), -9);
        due.is("34 field: a longer text ahead", Due.field(x, "sun 5;sun 6"), 2);
        due.is("34 fault: nothing of the text ahead is taken for what it lacks", Due.field(x, "sun"), -4);
        due.is("34 field: a longer text ahead", Due.field(x, "icy form 1 deep 2"), 1);
        due.is("34 field: nothing of the text ahead comes to this one", Due.field(x, "icy form 1"), 1);
        due.is("34 field: its deep is that at first", x.of(2, 2), 6);
        fault("it ends too early, by a full tape", "sun0;".repeat(24), 120);
        fault("blanks alone", " ".repeat(120), 120);
    }

    private static void tokensThatCantStand() {
        fault("a sign ; for an item", ";", 0);
        fault("a sign ; for an item", "sun 5;;", 6);
        fault("a number for an item", "5", 0);
        fault("form for an item", "form 5", 0);
        fault("as for an item", "as 5", 0);
        fault("deep for an item", "sun 5;deep 5", 6);
        fault("another word for an item", "moon 5", 0);
        fault("a byte that begins no token", "#", 0);
        fault("a byte that begins no token, behind an item", "sun 5#", 5);
        fault("a byte that begins no token, behind a word", "sun#5", 3);
        fault("no ; between", "sun 5 sun 6", 6);
        fault("no ; between", "sun 5sun 6", 5);
        fault("a word for a sign", "sign sun 1", 5);
        fault("a ; for a sign", "sign;", 4);
        fault("a word for a sign's form", "sign 1 form 1", 7);
        fault("a ; for a sign's form", "sign 1;", 6);
        fault("a third number", "sign 1 1 1", 9);
        fault("a number behind a kind", "icy 5", 4);
        fault("deep behind a kind", "icy deep 5", 4);
        fault("a ; behind a kind", "icy;", 3);
        fault("another word behind a kind", "icy sun 5", 4);
        fault("a kind behind a kind", "icy icy", 4);
        fault("a word for a form", "icy form form", 9);
        fault("a word for a sign", "icy as as", 7);
        fault("form and as", "icy form 1 as 1", 11);
        fault("as and form", "icy as 1 form 1", 9);
        fault("a number behind a form", "icy form 1 2", 11);
        fault("another word behind a form", "icy form 1 deeper 2", 11);
        fault("a ; for deep", "icy form 1 deep;", 15);
        fault("a word for deep", "icy form 1 deep deep", 16);
        fault("deep twice", "icy form 1 deep 2 deep 3", 18);
        fault("a word for a sun", "sun sun", 4);
        fault("a ; for a sun", "sun;", 3);
        fault("the first of two", "sun 4096;sun 4097", 4);
        fault("of two bytes the first", "sun ##", 4);
    }

    private static Supplier<SnowLetters> withLetters(int letters) {
        return () -> {
            SnowLetters x = new SnowLetters();
            for (int i = 0; i < letters; i++) {
                x.letter(0, i);
            }
            return x;
        };
    }

    private static void thirteenth() {
        String[] names = {"letter", "capital", "soft", "crossed", "underlined", "icy"};
        for (String name : names) {
            due.is("34 field: the 12th, " + name, Due.field(withLetters(11).get(), "sun 1;" + name + " form 1"), 2);
            edges.like("34 fault: the 13th, its own name, " + name, fed(withLetters(12), "sun 1;" + name + " form 1"),
                x -> x.field(), -7, x -> x.wipe());
        }
        edges.like("34 fault: the 13th by the text itself", fed(withLetters(11), "sun 1;icy form 1;icy form 1"),
            x -> x.field(), -18, x -> x.wipe());
        edges.like("34 fault: the 13th, ahead of a fault behind its name", fed(withLetters(12), "icy 5"),
            x -> x.field(), -1, x -> x.wipe());
        edges.like("34 fault: one ahead of the 13th", fed(withLetters(12), "sun 4096;icy form 1"),
            x -> x.field(), -5, x -> x.wipe());
        due.is("34 field: with twelve other items come", Due.field(withLetters(12).get(), "sun 1;sign 1 1"), 2);
        SnowLetters x = withLetters(11).get();
        Due.field(x, "crossed form 5 deep 7");
        due.is("34 field: the 12th is there", x.of(11, 0), 3);
        due.is("34 field: the 12th is there", x.of(11, 1), 5);
        due.is("34 field: the 12th is there", x.of(11, 2), 7);
    }

    private static void asByThen() {
        SnowLetters x = new SnowLetters();
        x.sign(25, 9);
        due.is("34 as: by then", Due.field(x, "icy as 25;sign 25 8;icy as 25;sign 25 0;icy as 25;icy as 0"), 6);
        due.is("34 as: as it was ahead of the text", x.of(0, 1), 9);
        due.is("34 as: as the text has made it", x.of(1, 1), 8);
        due.is("34 as: a sign without form", x.of(2, 1), 0);
        due.is("34 as: a sign that never had one", x.of(3, 1), 0);
        x.sign(25, 7);
        due.is("34 as: the letter doesn't change with the sign", x.of(1, 1), 8);
    }

    private static void manyItems() {
        due.is("34 field: one item", told("sun0"), 1);
        due.is("34 field: as many items as there is room for", told("sun0;".repeat(23) + "sun77"), 24);
        SnowLetters x = new SnowLetters();
        due.is("34 field: the later one counts", Due.field(x, "sun 1;sun 2;sign 3 4;sign 3 5"), 4);
        due.is("34 field: the later sun", x.now(1), 2);
        due.is("34 field: the later sign", x.form(3), 5);
        due.is("34 field: a second text", Due.field(x, "icy form 1"), 1);
        due.is("34 field: what there was stays", x.form(3), 5);
    }

    private static void faultsChangeNothing() {
        String text = "sign 0 77;sign 9 9;sun 9;icy as 9 deep 1;sun 4096";
        edges.like("34 fault: all items ahead of it are dropped", fed(Edges.EMPTY, text), x -> x.field(), -46,
            x -> x.wipe());
        edges.like("34 fault: all items ahead of it are dropped", fed(Edges.BUSY, text), x -> x.field(), -46,
            x -> x.wipe());
        edges.like("34 fault: with twelve letters", fed(Edges.FULL, text), x -> x.field(), -26, x -> x.wipe());
    }
}
