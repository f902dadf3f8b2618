/** Promises 1 and 41 to 45: a new object, images, counts and findings. */
public final class ImagesTest {
    private static final Due due = new Due();

    public static void main(String[] args) {
        newObject();
        imagesKeepSectionOne();
        theLatestStays();
        sheetsAndTapeAreNotKept();
        counting();
        statusOfAll();
        twoObjects();
        due.end("ImagesTest");
    }

    private static void newObject() {
        SnowLetters x = new SnowLetters();
        for (int what = 0; what < 4; what++) {
            due.is("count(" + what + ")", x.count(what), 0);
            due.is("now(" + what + ")", x.now(what), 0);
        }
        for (int sign = 0; sign < 26; sign++) {
            due.is("form(" + sign + ")", x.form(sign), 0);
        }
        for (int which = -1; which < 7; which++) {
            due.is("status(" + which + ")", x.status(which), 0);
        }
        due.is("of(0, 0)", x.of(0, 0), Due.BEYOND);
        due.is("undo()", x.undo(), Due.NONE);
        due.is("tear()", x.tear(), 0);
    }

    private static void imagesKeepSectionOne() {
        SnowLetters x = new SnowLetters();
        x.letter(4, 9);
        x.set(0, 2, 70);
        x.letter(5, 10);
        x.sign(0, 3);
        x.sign(25, 4095);
        x.sun(17);
        x.hours(40);
        due.is("image", x.image(), 1);
        x.letter(1, 1);
        x.turn(0, 2);
        x.set(0, 1, 8);
        x.set(0, 2, 71);
        x.sign(0, 0);
        x.sign(25, 1);
        x.sign(7, 7);
        x.sun(0);
        x.hours(9);
        due.is("undo", x.undo(), 2);
        due.is("kind", x.of(0, 0), 4);
        due.is("form", x.of(0, 1), 9);
        due.is("deep", x.of(0, 2), 70);
        due.is("kind", x.of(1, 0), 5);
        due.is("form(0)", x.form(0), 3);
        due.is("form(7)", x.form(7), 0);
        due.is("form(25)", x.form(25), 4095);
        due.is("sun", x.now(1), 17);
        due.is("hour", x.now(0), 40);
        due.is("the letters behind are gone", x.of(2, 0), Due.BEYOND);
        due.is("the next one's number", x.letter(0, 0), 2);
    }

    private static void theLatestStays() {
        SnowLetters x = new SnowLetters();
        x.image();
        x.letter(0, 1);
        x.image();
        x.letter(0, 2);
        due.is("undo", x.undo(), 1);
        x.set(0, 1, 55);
        due.is("undo again: what is kept doesn't change with the letters", x.undo(), 1);
        due.is("form", x.of(0, 1), 1);
        due.is("tear", x.tear(), 1);
        due.is("tear again", x.tear(), 0);
        due.is("undo: the earlier one isn't kept either", x.undo(), Due.NONE);
        due.is("it stays as it is", x.count(0), 1);
        due.is("image", x.image(), 1);
        x.letter(0, 2);
        due.is("undo", x.undo(), 1);
        due.is("a text's letters are undone", Due.field(x, "icy form 1;sun 9"), 2);
        due.is("undo", x.undo(), 1);
        due.is("now(1)", x.now(1), 0);
    }

    private static void sheetsAndTapeAreNotKept() {
        SnowLetters x = new SnowLetters();
        x.sheet(0, 8, 2);
        x.write(0, 0, 5);
        x.feed(0, 3);
        x.image();
        x.write(0, 0, 6);
        x.sheet(1, 16, 3);
        x.feed(0, 1);
        x.undo();
        due.is("the tape stays", x.count(2), 4);
        due.is("the sheet stays", x.write(0, 0, 7), 6);
        due.is("the new sheet stays", x.write(1, 2, 7), 0);
    }

    private static void counting() {
        SnowLetters x = new SnowLetters();
        x.letter(1, 7);
        x.letter(3, 4095);
        x.letter(0, 0);
        x.sun(4095);
        x.hours(99);
        due.is("count(0)", x.count(0), 3);
        due.is("count(3): of their forms", x.count(3), 15);
        x.sign(4, 1);
        x.sign(5, 1);
        due.is("count(1)", x.count(1), 2);
        x.feed(0, 4);
        due.is("count(2)", x.count(2), 4);
        for (int bad : new int[] {-1, 4, Integer.MIN_VALUE, Integer.MAX_VALUE}) {
            due.is("count", x.count(bad), Due.BEYOND);
        }
        due.is("status(0)", x.status(0), 4);
    }

    private static void statusOfAll() {
        SnowLetters x = new SnowLetters();
        x.image();
        x.odd(-1);
        for (int i = 0; i < 14; i++) {
            x.letter(3, 0);
        }
        for (int i = 0; i < 3; i++) {
            x.as(0, 1);
        }
        for (int i = 0; i < 4; i++) {
            x.read(0);
        }
        for (int i = 0; i < 5; i++) {
            x.forge(0, 1);
        }
        for (int i = 0; i < 6; i++) {
            x.lays(0);
        }
        for (int i = 0; i < 7; i++) {
            x.sheet(0, 0, -1);
        }
        x.undo();
        x.tear();
        Due.field(x, "no");
        int[] want = {1, 2, 3, 4, 5, 6, 7};
        for (int which = 0; which < 7; which++) {
            due.is("status(" + which + ")", x.status(which), want[which]);
        }
        due.is("status(-1)", x.status(-1), 28);
        int told = 1;
        for (int bad : new int[] {7, -2, Integer.MIN_VALUE, Integer.MAX_VALUE}) {
            due.is("status(" + bad + ")", x.status(bad), Due.BEYOND);
            told++;
            due.is("status(0)", x.status(0), told);
        }
        due.is("status(-1)", x.status(-1), 32);
    }

    private static void twoObjects() {
        SnowLetters x = new SnowLetters();
        SnowLetters y = new SnowLetters();
        x.letter(1, 1);
        x.sign(0, 1);
        x.sun(1);
        x.feed(0, 1);
        x.sheet(0, 8, 1);
        x.image();
        x.odd(-1);
        due.is("letters of the other", y.count(0), 0);
        due.is("signs of the other", y.count(1), 0);
        due.is("tape of the other", y.count(2), 0);
        due.is("sun of the other", y.now(1), 0);
        due.is("findings of the other", y.status(-1), 0);
        due.is("sheet of the other", y.lays(0), Due.MISSING);
        due.is("image of the other", y.undo(), Due.NONE);
    }
}
