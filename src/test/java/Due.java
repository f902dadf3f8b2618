/** Counts the answers that are not the ones that are due, and prints each. */
final class Due {
    static final int BEYOND = -1000000001;
    static final int FULL = -1000000002;
    static final int KIND = -1000000003;
    static final int NONE = -1000000004;
    static final int STATE = -1000000005;
    static final int MISSING = -1000000006;
    static final int SIZE = -1000000007;

    private int wrong = 0;
    private int asked = 0;

    void is(String call, long got, long want) {
        asked++;
        if (got != want) {
            wrong++;
            if (wrong <= 50) {
                System.out.println(call + " answered " + got + ", due is " + want);
            }
        }
    }

    /** Ends the test. */
    void end(String test) {
        System.out.println(test + ": " + asked + " answers, " + wrong + " not as due");
        if (wrong != 0 || asked == 0) {
            System.exit(1);
        }
    }

    /** Feeds a text to THE TAPE, four bytes at a time. */
    static void feed(SnowLetters x, String text) {
        int place = 0;
        while (place < text.length()) {
            int n = Math.min(4, text.length() - place);
            int number = 0;
            for (int i = 0; i < n; i++) {
                number = number << 8 | text.charAt(place + i) & 255;
            }
            x.feed(number, n);
            place += n;
        }
    }

    static int field(SnowLetters x, String text) {
        feed(x, text);
        return x.field();
    }
}
