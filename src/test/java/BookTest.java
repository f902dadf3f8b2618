/** Promises 10 to 16: THE BOOK. */
public final class BookTest {
    private static final Due due = new Due();

    public static void main(String[] args) {
        signAndForm();
        reading();
        apartness();
        staying();
        forging();
        forgingByAllForms();
        wrongInputs();
        due.end("BookTest");
    }

    private static void signAndForm() {
        SnowLetters x = new SnowLetters();
        due.is("form(0) at first", x.form(0), 0);
        due.is("sign(0, 4095)", x.sign(0, 4095), 0);
        due.is("sign(0, 7)", x.sign(0, 7), 4095);
        due.is("form(0)", x.form(0), 7);
        due.is("sign(25, 1)", x.sign(25, 1), 0);
        due.is("form(25)", x.form(25), 1);
        due.is("count(1)", x.count(1), 2);
        due.is("sign(0, 0)", x.sign(0, 0), 7);
        due.is("form(0) taken", x.form(0), 0);
        due.is("count(1)", x.count(1), 1);
    }

    private static void reading() {
        SnowLetters x = new SnowLetters();
        due.is("read, empty book", x.read(0), Due.NONE);
        due.is("doubts, empty book", x.doubts(0), Due.NONE);
        x.sign(7, 4095);
        due.is("read(0), twelve strokes off", x.read(0), 7);
        due.is("doubts(0)", x.doubts(0), 1);
        x.sign(9, 3);
        x.sign(4, 5);
        due.is("read(1): of several the least", x.read(1), 4);
        due.is("doubts(1)", x.doubts(1), 2);
        due.is("read(3)", x.read(3), 9);
        due.is("doubts(3)", x.doubts(3), 1);
        due.is("read(7): of several the least", x.read(7), 4);
        x.sign(4, 0);
        due.is("read(5): a sign without form isn't asked", x.read(5), 9);
        due.is("read(0): nor for the empty form", x.read(0), 9);
        due.is("doubts(0)", x.doubts(0), 1);
        x.sign(9, 0);
        x.sign(7, 0);
        due.is("read, empty again", x.read(3), Due.NONE);
        x.sign(0, 3);
        x.sign(25, 5);
        due.is("read as the first sign", x.read(1), 0);
        due.is("doubts with the first and the last sign", x.doubts(1), 2);
        due.is("read as the last sign", x.read(5), 25);
        due.is("status(3)", x.status(3), 3);
    }

    private static void apartness() {
        SnowLetters x = new SnowLetters();
        due.is("apart, no sign", x.apart(), Due.NONE);
        x.sign(0, 4095);
        due.is("apart, one sign", x.apart(), Due.NONE);
        x.sign(25, 1);
        due.is("apart", x.apart(), 11);
        x.sign(12, 14);
        due.is("apart", x.apart(), 4);
        x.sign(13, 14);
        due.is("apart, alike", x.apart(), 0);
        x.sign(14, 4000);
        due.is("apart, alike, and another behind", x.apart(), 0);
        x.sign(14, 0);
        x.sign(13, 0);
        x.sign(12, 0);
        x.sign(25, 0);
        due.is("apart, one again", x.apart(), Due.NONE);
    }

    private static void staying() {
        SnowLetters x = new SnowLetters();
        due.is("stay, empty book", x.stay(), 0);
        x.sign(0, 3);
        x.sign(1, 1);
        x.sign(25, 3072);
        due.is("stay, no sun", x.stay(), 3 + (1 << 25));
        x.sun(2);
        due.is("stay: 3 becomes 1", x.stay(), 2 + (1 << 25));
        x.sun(1);
        due.is("stay: 1 becomes nothing, as near to itself", x.stay(), 3 + (1 << 25));
        x.sun(3072);
        due.is("stay: 3072 becomes nothing", x.stay(), 3);
        x.sun(4095);
        due.is("stay: nothing is left, the nearest to that stays", x.stay(), 2);
        due.is("status(-1)", x.status(-1), 0);
    }

    private static void forging() {
        SnowLetters x = new SnowLetters();
        x.sign(3, 1);
        x.sign(5, 4095);
        due.is("forge(3, 5): eleven between, six must be changed", x.forge(3, 5), 6);
        due.is("forge(5, 3): six, too", x.forge(5, 3), 6);
        x.sign(5, 7);
        due.is("forge(3, 5): at as far as from both the least is read", x.forge(3, 5), 2);
        due.is("forge(5, 3)", x.forge(5, 3), 1);
        x.sign(9, 7);
        due.is("forge(3, 9): another one has its form ahead", x.forge(3, 9), Due.NONE);
        due.is("forge(9, 5): is read as that", x.forge(9, 5), 0);
        due.is("forge(5, 9)", x.forge(5, 9), Due.NONE);
        due.is("forge(9, 3)", x.forge(9, 3), 1);
    }

    /** Against all 4096 FORMS that a walker might make of it. */
    private static void forgingByAllForms() {
        java.util.Random random = new java.util.Random(5);
        for (int round = 0; round < 60; round++) {
            SnowLetters x = new SnowLetters();
            int[] forms = new int[26];
            int bits = 1 + random.nextInt(12);
            for (int i = 0; i < 1 + random.nextInt(40); i++) {
                int sign = random.nextInt(26);
                forms[sign] = random.nextInt(1 << bits);
                x.sign(sign, forms[sign]);
            }
            for (int i = 0; i < 200; i++) {
                int sign = random.nextInt(26);
                int other = random.nextInt(26);
                due.is("forge(" + sign + ", " + other + ")", x.forge(sign, other), forged(forms, sign, other));
            }
        }
    }

    private static int readAs(int[] forms, int form) {
        for (int differs = 0; differs <= 12; differs++) {
            for (int sign = 0; sign < 26; sign++) {
                if (forms[sign] != 0 && Integer.bitCount(forms[sign] ^ form) == differs) {
                    return sign;
                }
            }
        }
        return -1;
    }

    private static int forged(int[] forms, int sign, int other) {
        if (sign == other) {
            return Due.BEYOND;
        }
        if (forms[sign] == 0 || forms[other] == 0) {
            return Due.STATE;
        }
        int fewest = 13;
        for (int form = 0; form < 4096; form++) {
            if (readAs(forms, form) == other) {
                fewest = Math.min(fewest, Integer.bitCount(form ^ forms[sign]));
            }
        }
        return fewest == 13 ? Due.NONE : fewest;
    }

    private static void wrongInputs() {
        SnowLetters x = new SnowLetters();
        int told = 0;
        for (int bad : new int[] {-1, 26, Integer.MIN_VALUE, Integer.MAX_VALUE}) {
            due.is("sign of none", x.sign(bad, 1), Due.BEYOND);
            due.is("form of none", x.form(bad), Due.BEYOND);
            due.is("forge from none", x.forge(bad, 0), Due.BEYOND);
            due.is("forge to none", x.forge(0, bad), Due.BEYOND);
            told += 4;
        }
        for (int bad : new int[] {-1, 4096, Integer.MIN_VALUE, Integer.MAX_VALUE}) {
            due.is("sign of no form", x.sign(0, bad), Due.BEYOND);
            due.is("read of no form, ahead of NONE", x.read(bad), Due.BEYOND);
            due.is("doubts of no form, ahead of NONE", x.doubts(bad), Due.BEYOND);
            told += 3;
        }
        due.is("forge one and the same, ahead of STATE", x.forge(2, 2), Due.BEYOND);
        told++;
        due.is("nothing came to the book", x.count(1), 0);
        x.sign(0, 1);
        due.is("forge without the other's form", x.forge(0, 1), Due.STATE);
        due.is("forge without its own form", x.forge(1, 0), Due.STATE);
        due.is("status(0)", x.status(0), told);
        due.is("status(4)", x.status(4), 2);
        due.is("status(-1)", x.status(-1), told + 2);
    }
}
