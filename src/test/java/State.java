/** All of an object that calls can see, as a text; the object is spent by it. Takes fewer than 330 calls. */
final class State {
    private static final long PATTERN = 0x0123456789abcdefL;

    private State() {
    }

    static String of(SnowLetters x) {
        StringBuilder text = new StringBuilder();
        plain(x, text.append("now "));
        for (int s = 0; s < 4; s++) {
            sheet(x, s, text.append("| sheet ").append(s).append(": "));
        }
        text.append("| tape ").append(x.count(2)).append(' ').append(x.field()).append(' ').append(x.count(2));
        plain(x, text.append("| by the tape "));
        plain(x, text.append("| kept ").append(x.undo()).append(' '));
        return text.toString();
    }

    /** What section 1 of the document tells. */
    private static void plain(SnowLetters x, StringBuilder text) {
        int letters = x.count(0);
        text.append(letters).append(" letters, hour ").append(x.now(0)).append(", sun ").append(x.now(1));
        text.append(", book");
        for (int sign = 0; sign < 26; sign++) {
            text.append(' ').append(x.form(sign));
        }
        for (int letter = 0; letter < letters; letter++) {
            text.append(", ").append(x.of(letter, 0)).append(' ').append(x.of(letter, 1));
            text.append(' ').append(x.of(letter, 2));
        }
        text.append(' ');
    }

    /** Its numbers, and by a number that is written over them how many bits they have. */
    private static void sheet(SnowLetters x, int s, StringBuilder text) {
        for (int i = 0; i <= 40; i++) {
            long was = x.write(s, i, PATTERN);
            text.append(was).append(' ');
            if (was == Due.MISSING || was == Due.BEYOND) {
                break;
            }
        }
        text.append("bits ").append(Long.toHexString(x.write(s, 0, 0))).append(' ');
    }

    /** How many acts answered each finding, all of them first. */
    static int[] findings(SnowLetters x) {
        int[] found = new int[8];
        for (int which = -1; which < 7; which++) {
            found[which + 1] = x.status(which);
        }
        return found;
    }
}
