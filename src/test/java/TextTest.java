/** Promises 32 to 34: THE TAPE and THE TEXT of a FIELD. */
public final class TextTest {
    private static final Due due = new Due();

    public static void main(String[] args) {
        feeding();
        bytesInOrder();
        goodTexts();
        faults();
        nothingChangesByAFault();
        thirteenth();
        longTexts();
        everyByte();
        due.end("TextTest");
    }

    private static void feeding() {
        SnowLetters x = new SnowLetters();
        due.is("count(2)", x.count(2), 0);
        due.is("wipe", x.wipe(), 0);
        due.is("feed", x.feed(0, 1), 1);
        due.is("feed", x.feed(-1, 2), 3);
        due.is("feed", x.feed(5, 3), 6);
        due.is("feed", x.feed(5, 4), 10);
        for (int bad : new int[] {-1, 0, 5, Integer.MIN_VALUE, Integer.MAX_VALUE}) {
            due.is("feed", x.feed(5, bad), Due.BEYOND);
        }
        due.is("count(2)", x.count(2), 10);
        due.is("wipe", x.wipe(), 10);
        due.is("wipe", x.wipe(), 0);
        for (int i = 1; i <= 29; i++) {
            due.is("feed", x.feed(0, 4), 4 * i);
        }
        due.is("feed", x.feed(0, 3), 119);
        due.is("feed too much", x.feed(0, 2), Due.FULL);
        due.is("feed no number, ahead of FULL", x.feed(0, 5), Due.BEYOND);
        due.is("feed the last", x.feed(0, 1), 120);
        due.is("feed", x.feed(0, 1), Due.FULL);
        due.is("count(2)", x.count(2), 120);
        due.is("status(1)", x.status(1), 2);
        due.is("status(0)", x.status(0), 6);
    }

    private static void bytesInOrder() {
        SnowLetters x = new SnowLetters();
        x.feed('x' << 24 | 's' << 16 | 'u' << 8 | 'n', 3);
        x.feed(' ', 1);
        x.feed('9' << 8 | '1', 1);
        x.feed('9' << 16 | '2' << 8 | '3', 2);
        due.is("field: sun 123", x.field(), 1);
        due.is("now(1)", x.now(1), 123);
        due.is("count(2)", x.count(2), 0);
    }

    private static void goodTexts() {
        SnowLetters x = new SnowLetters();
        due.is("sign", Due.field(x, "sign 3 197"), 1);
        due.is("form(3)", x.form(3), 197);
        due.is("as, by then", Due.field(x, "soft as 3;sign 3 0;icy as 3;sign 3 4095;capital as 3 deep 99"), 5);
        due.is("of(0, 0)", x.of(0, 0), 2);
        due.is("of(0, 1)", x.of(0, 1), 197);
        due.is("of(0, 2)", x.of(0, 2), 6);
        due.is("of(1, 0)", x.of(1, 0), 5);
        due.is("of(1, 1)", x.of(1, 1), 0);
        due.is("of(2, 0)", x.of(2, 0), 1);
        due.is("of(2, 1)", x.of(2, 1), 4095);
        due.is("of(2, 2)", x.of(2, 2), 99);
        due.is("no blanks", Due.field(x, "letter form1deep0;crossed form4095;sun7"), 3);
        due.is("of(3, 0)", x.of(3, 0), 0);
        due.is("of(3, 1)", x.of(3, 1), 1);
        due.is("of(3, 2)", x.of(3, 2), 0);
        due.is("of(4, 0)", x.of(4, 0), 3);
        due.is("of(4, 1)", x.of(4, 1), 4095);
        due.is("now(1)", x.now(1), 7);
        due.is("many blanks", Due.field(x, "   underlined   as   25   deep   1   ;   sun   0   "), 2);
        due.is("of(5, 0)", x.of(5, 0), 4);
        due.is("of(5, 1): a sign without form", x.of(5, 1), 0);
        due.is("of(5, 2)", x.of(5, 2), 1);
        due.is("zeros ahead", Due.field(x, "sun 0000000000000000000000000000004095;sign 00 0001"), 2);
        due.is("now(1)", x.now(1), 4095);
        due.is("form(0)", x.form(0), 1);
        due.is("as the first sign", Due.field(x, "soft as 0"), 1);
        due.is("of(6, 1)", x.of(6, 1), 1);
        due.is("the empty form, the first sign", Due.field(x, "soft form 0;sign 0 0;sun 0"), 3);
        due.is("of(7, 1)", x.of(7, 1), 0);
        due.is("form(0)", x.form(0), 0);
        due.is("count(0)", x.count(0), 8);
        due.is("status(-1)", x.status(-1), 0);
    }

    private static void fault(String text, int place) {
        SnowLetters x = new SnowLetters();
        due.is("field: " + text, Due.field(x, text), -1 - place);
        due.is("the tape is empty after " + text, x.count(2), 0);
        due.is("no letter after " + text, x.count(0), 0);
        due.is("no sign after " + text, x.count(1), 0);
        due.is("no sun after " + text, x.now(1), 0);
        due.is("no finding after " + text, x.status(-1), 0);
    }

    private static void faults() {
        fault("", 0);
        fault("   ", 3);
        fault(";", 0);
        fault("sun", 3);
        fault("sun ", 4);
        fault("sun 5;", 6);
        fault("sun 5 ; ", 8);
        fault("sun 5;;sun 6", 6);
        fault("sun 5 6", 6);
        fault("sun 5 sun 6", 6);
        fault("sun 4096", 4);
        fault("sun 99999999999999999999", 4);
        fault("sun 4294967296", 4);
        fault("sun 18446744073709551616", 4);
        fault("sun -1", 4);
        fault("sun x", 4);
        fault("sunx 5", 0);
        fault("sun5x", 4);
        fault("sunz 5", 0);
        fault("asun 5", 0);
        fault("gun 5", 0);
        fault("fetter form 1", 0);
        fault("letter corm 1", 7);
        fault("letter form 1 keep 1", 14);
        fault("Sun 5", 0);
        fault("sign 26 1", 5);
        fault("sign 25 4096", 8);
        fault("sign 25", 7);
        fault("sign 25;", 7);
        fault("sign 1 1;sign 1", 15);
        fault("sign form 1 1", 5);
        fault("letter", 6);
        fault("letter 5", 7);
        fault("letter form", 11);
        fault("letter form 4096", 12);
        fault("letter form as 1", 12);
        fault("letter as 26", 10);
        fault("letter as form 1", 10);
        fault("letter form 1 deep", 18);
        fault("letter form 1 deep 100", 19);
        fault("letter form 1 deep 4096", 19);
        fault("letter form 1 deep 5 deep 6", 21);
        fault("letter form 1 deeper 5", 14);
        fault("letter deep 5 form 1", 7);
        fault("letter form 1 as 2", 14);
        fault("letters form 1", 0);
        fault("lette form 1", 0);
        fault("deep 5", 0);
        fault("form 5", 0);
        fault("5", 0);
        fault("sun 5#", 5);
        fault("sun #5", 4);
        fault("#", 0);
        fault("sun\t5", 3);
        fault("sun 5\n", 5);
        fault("sun 5\u0000", 5);
        fault("sun 4096 #", 4);
        fault("sun # 4096", 4);
        fault("sun 5;sign 3 3;letter form 9;soft as 3 deep 0;sun 4;x", 52);
    }

    private static void nothingChangesByAFault() {
        SnowLetters x = new SnowLetters();
        x.letter(1, 77);
        x.sign(3, 33);
        x.sun(9);
        x.hours(5);
        due.is("fault", Due.field(x, "sign 3 44;sign 4 4;sun 1;letter as 3 deep 9;letter as"), -54);
        due.is("count(0)", x.count(0), 1);
        due.is("form(3)", x.form(3), 33);
        due.is("form(4)", x.form(4), 0);
        due.is("now(1)", x.now(1), 9);
        due.is("now(0)", x.now(0), 5);
        due.is("letter", x.letter(0, 1), 1);
        due.is("of(1, 2)", x.of(1, 2), 6);
    }

    private static void thirteenth() {
        SnowLetters x = new SnowLetters();
        for (int i = 0; i < 10; i++) {
            x.letter(0, i);
        }
        due.is("two come", Due.field(x, "icy form 8;icy form 9"), 2);
        due.is("no 13th", Due.field(x, "sun 1; icy form 9"), -8);
        due.is("no 13th, with another fault behind it", Due.field(x, "icy icy"), -1);
        due.is("no 13th, another fault ahead", Due.field(x, "sun icy"), -5);
        due.is("other items still come", Due.field(x, "sun 6;sign 0 6"), 2);
        due.is("count(0)", x.count(0), 12);
        SnowLetters y = new SnowLetters();
        for (int i = 0; i < 11; i++) {
            y.letter(0, i);
        }
        due.is("the second is the 13th", Due.field(y, "soft form 1;soft form 1"), -13);
        due.is("count(0)", y.count(0), 11);
        due.is("status(-1)", x.status(-1) + y.status(-1), 0);
    }

    private static void longTexts() {
        SnowLetters x = new SnowLetters();
        StringBuilder text = new StringBuilder();
        for (int i = 0; i < 20; i++) {
            text.append("sun ").append(i % 10).append(';');
        }
        due.is("twenty items and an end that comes too early", Due.field(x, text.toString()), -121);
        text.setCharAt(119, ' ');
        due.is("twenty items", Due.field(x, text.toString()), 20);
        due.is("now(1)", x.now(1), 9);
        due.is("many signs", Due.field(x, ";".repeat(120)), -1);
        due.is("one word", Due.field(x, "a".repeat(120)), -1);
        due.is("one number", Due.field(x, "0".repeat(120)), -1);
        due.is("a long number", Due.field(x, "sun" + "0".repeat(116) + "3"), 1);
        due.is("now(1)", x.now(1), 3);
        due.is("a long wrong number", Due.field(x, "sun" + "9".repeat(117)), -4);
    }

    private static void everyByte() {
        for (int b = 0; b < 256; b++) {
            SnowLetters x = new SnowLetters();
            Due.feed(x, "sun 5");
            x.feed(b, 1);
            boolean isDigit = b >= '0' && b <= '9';
            int want = b == ' ' || isDigit ? 1 : b == ';' ? -7 : -6;
            due.is("byte " + b, x.field(), want);
        }
    }
}
