/** Letters trodden in snow, to be read from a balloon. What each call answers is told in ../shared/DOC.md. */
public final class SnowLetters {
    private static final int BEYOND = -1000000001;
    private static final int FULL = -1000000002;
    private static final int KIND = -1000000003;
    private static final int NONE = -1000000004;
    private static final int STATE = -1000000005;
    private static final int MISSING = -1000000006;
    private static final int SIZE = -1000000007;
    private static final int FINDINGS = 7;

    private static final int MOST_HOUR = 999;
    private static final int MOST_HOURS = 99;
    private static final int MOST_FEET = 9999;

    private final Plain plain;
    private final Plain kept;
    private final Plain trial;
    private final Tape tape;
    private final FieldText text;
    private final Sheets sheets;
    private final Choice choice;
    private final int[] found;
    private boolean isKept;

    public SnowLetters() {
        plain = new Plain();
        kept = new Plain();
        trial = new Plain();
        tape = new Tape();
        text = new FieldText();
        sheets = new Sheets();
        choice = new Choice();
        found = new int[FINDINGS];
        isKept = false;
    }

    // ---- forms

    public int odd(int form) {
        if (!Forms.isForm(form)) {
            return finding(BEYOND);
        }
        return Forms.oddPoints(form);
    }

    public int pieces(int form) {
        if (!Forms.isForm(form)) {
            return finding(BEYOND);
        }
        return Forms.countPieces(form);
    }

    public int lines(int form) {
        if (!Forms.isForm(form)) {
            return finding(BEYOND);
        }
        return Forms.countLines(form);
    }

    public int strays(int form) {
        if (!Forms.isForm(form)) {
            return finding(BEYOND);
        }
        return Forms.countStrays(form);
    }

    public long ways(int form, int point) {
        if (!Forms.isForm(form) || !Forms.isPoint(point)) {
            return finding(BEYOND);
        }
        if (!Forms.canBeTrodden(form, point)) {
            return 0;
        }
        return Forms.countWays(form, point, 0);
    }

    public int ith(int form, int point, int i) {
        if (!Forms.isForm(form) || !Forms.isPoint(point) || !isWithin(i, Forms.STROKES - 1)) {
            return finding(BEYOND);
        }
        int stroke = Forms.strokeOfFirstWay(form, point, i);
        return stroke < 0 ? finding(NONE) : stroke;
    }

    public int again(int form) {
        if (!Forms.isForm(form)) {
            return finding(BEYOND);
        }
        if (Forms.countPieces(form) > 1) {
            return finding(NONE);
        }
        return Forms.fewestToClose(form);
    }

    public int turned(int form, int n) {
        if (!Forms.isForm(form) || !isWithin(n, 3)) {
            return finding(BEYOND);
        }
        int result = form;
        for (int i = 0; i < n; i++) {
            result = Forms.byAQuarter(result);
        }
        return result;
    }

    // ---- the book

    public int sign(int sign, int form) {
        if (!Book.isSign(sign) || !Forms.isForm(form)) {
            return finding(BEYOND);
        }
        int before = plain.book.formAt(sign);
        plain.book.put(sign, form);
        return before;
    }

    public int form(int sign) {
        if (!Book.isSign(sign)) {
            return finding(BEYOND);
        }
        return plain.book.formAt(sign);
    }

    public int read(int form) {
        if (!Forms.isForm(form)) {
            return finding(BEYOND);
        }
        int nearest = plain.book.nearest(form);
        return nearest < 0 ? finding(NONE) : nearest;
    }

    public int doubts(int form) {
        if (!Forms.isForm(form)) {
            return finding(BEYOND);
        }
        int nearest = plain.book.nearest(form);
        return nearest < 0 ? finding(NONE) : plain.book.countAsNear(form, nearest);
    }

    public int apart() {
        int least = plain.book.leastBetweenTwo();
        return least < 0 ? finding(NONE) : least;
    }

    public int stay() {
        return plain.book.signsThatStay(plain.sunny);
    }

    public int forge(int sign, int other) {
        if (!Book.isSign(sign) || !Book.isSign(other) || sign == other) {
            return finding(BEYOND);
        }
        if (plain.book.formAt(sign) == 0 || plain.book.formAt(other) == 0) {
            return finding(STATE);
        }
        int fewest = plain.book.fewestToForge(sign, other);
        return fewest < 0 ? finding(NONE) : fewest;
    }

    // ---- letters

    public int letter(int kind, int form) {
        if (!Kinds.isKind(kind) || !Forms.isForm(form)) {
            return finding(BEYOND);
        }
        if (plain.isFull()) {
            return finding(FULL);
        }
        return plain.add(kind, form, Plain.DEEP_AT_FIRST);
    }

    public int of(int letter, int what) {
        if (!plain.has(letter)) {
            return finding(BEYOND);
        }
        switch (what) {
            case 0:
                return plain.kinds[letter];
            case 1:
                return plain.forms[letter];
            case 2:
                return plain.deeps[letter];
            case 3:
                return plain.lastsOf(letter);
            case 4:
                return plain.shownAt(letter, plain.hour);
            case 5:
                return plain.feetOf(letter);
            case 6:
                return plain.book.nearest(plain.forms[letter]);
            case 7:
                return plain.seenAs(letter);
            default:
                return finding(BEYOND);
        }
    }

    public int set(int letter, int what, int v) {
        if (!plain.has(letter)) {
            return finding(BEYOND);
        }
        if (what == 1 && Forms.isForm(v)) {
            int before = plain.forms[letter];
            plain.forms[letter] = v;
            return before;
        }
        if (what == 2 && isWithin(v, Plain.MOST_DEEP)) {
            int before = plain.deeps[letter];
            plain.deeps[letter] = v;
            return before;
        }
        return finding(BEYOND);
    }

    public int turn(int letter, int kind) {
        if (!plain.has(letter) || !Kinds.isKind(kind)) {
            return finding(BEYOND);
        }
        int before = plain.kinds[letter];
        plain.kinds[letter] = kind;
        return before;
    }

    public int as(int letter, int kind) {
        if (!plain.has(letter) || !Kinds.isKind(kind)) {
            return finding(BEYOND);
        }
        if (!Kinds.isUnder(plain.kinds[letter], kind)) {
            return finding(KIND);
        }
        return plain.deeps[letter];
    }

    public int sun(int set) {
        if (!Forms.isForm(set)) {
            return finding(BEYOND);
        }
        int before = plain.sunny;
        plain.sunny = set;
        return before;
    }

    public int hours(int n) {
        if (n < 1 || n > MOST_HOURS) {
            return finding(BEYOND);
        }
        if (plain.hour + n > MOST_HOUR) {
            return finding(STATE);
        }
        int changed = plain.countChanged(plain.hour + n);
        plain.hour += n;
        return changed;
    }

    public int now(int what) {
        switch (what) {
            case 0:
                return plain.hour;
            case 1:
                return plain.sunny;
            case 2:
                return plain.feetOfAll();
            case 3:
                return plain.lettersMisread();
            default:
                return finding(BEYOND);
        }
    }

    public int on(int letter, int n) {
        if (!plain.has(letter) || !isWithin(n, MOST_HOURS)) {
            return finding(BEYOND);
        }
        if (plain.hour + n > MOST_HOUR) {
            return finding(STATE);
        }
        return plain.shownAt(letter, plain.hour + n);
    }

    public int when(int letter) {
        if (!plain.has(letter)) {
            return finding(BEYOND);
        }
        if (plain.hour > MOST_HOUR - MOST_HOURS) {
            return finding(STATE);
        }
        for (int n = 0; n <= MOST_HOURS; n++) {
            if (plain.isMisreadAt(letter, plain.hour + n)) {
                return n;
            }
        }
        return finding(NONE);
    }

    public int kind(int letter) {
        if (!plain.has(letter)) {
            return finding(BEYOND);
        }
        return Kinds.longestForFeet(plain.forms[letter], plain.deeps[letter]);
    }

    // ---- what to say, what was meant

    public int best(int n) {
        if (!isWithin(n, MOST_FEET)) {
            return finding(BEYOND);
        }
        choice.choose(plain, n);
        return choice.chosen;
    }

    public int worth(int n) {
        if (!isWithin(n, MOST_FEET)) {
            return finding(BEYOND);
        }
        choice.choose(plain, n);
        return choice.mostWorth;
    }

    public int meant(int letter) {
        if (!plain.has(letter)) {
            return finding(BEYOND);
        }
        return plain.book.signsLeftAs(plain.shownAt(letter, plain.hour), plain.sunny);
    }

    public int cheap(int kind) {
        if (!Kinds.isKind(kind)) {
            return finding(BEYOND);
        }
        int cheapest = plain.book.cheapest(kind);
        return cheapest < 0 ? finding(NONE) : cheapest;
    }

    // ---- the text

    public int feed(int bytes, int n) {
        if (n < 1 || n > 4) {
            return finding(BEYOND);
        }
        if (!tape.hasRoomFor(n)) {
            return finding(FULL);
        }
        tape.append(bytes, n);
        return tape.length;
    }

    public int wipe() {
        return tape.empty();
    }

    public int field() {
        trial.become(plain);
        int answer = text.tell(tape, trial);
        if (answer >= 0) {
            plain.become(trial);
        }
        tape.empty();
        return answer;
    }

    // ---- sheets

    public int sheet(int s, int bits, int n) {
        if (!Sheets.isSheet(s) || !Sheets.isWidth(bits)) {
            return finding(BEYOND);
        }
        if (n < 0) {
            return finding(SIZE);
        }
        if (n > Sheets.MOST) {
            return finding(BEYOND);
        }
        return sheets.lay(s, bits, n);
    }

    public long write(int s, int i, long v) {
        if (!Sheets.isSheet(s)) {
            return finding(BEYOND);
        }
        if (sheets.isMissing(s)) {
            return finding(MISSING);
        }
        if (i < 0 || i >= sheets.sizeOf(s)) {
            return finding(BEYOND);
        }
        long before = sheets.at(s, i);
        sheets.put(s, i, v);
        return before;
    }

    public int copy(int s, int from, int t, int to, int n) {
        if (!Sheets.isSheet(s) || !Sheets.isSheet(t)) {
            return finding(BEYOND);
        }
        if (sheets.isMissing(s) || sheets.isMissing(t)) {
            return finding(MISSING);
        }
        if (!sheets.areAlike(s, t)) {
            return finding(KIND);
        }
        if (!sheets.holds(s, from, n) || !sheets.holds(t, to, n)) {
            return finding(BEYOND);
        }
        sheets.move(s, from, t, to, n);
        return n;
    }

    public int lays(int s) {
        if (!Sheets.isSheet(s)) {
            return finding(BEYOND);
        }
        if (sheets.isMissing(s)) {
            return finding(MISSING);
        }
        return sheets.toBook(s, plain.book);
    }

    public int show(int s) {
        if (!Sheets.isSheet(s)) {
            return finding(BEYOND);
        }
        if (sheets.isMissing(s)) {
            return finding(MISSING);
        }
        int shown = Math.min(plain.size, sheets.sizeOf(s));
        for (int i = 0; i < shown; i++) {
            sheets.put(s, i, plain.seenAs(i));
        }
        return shown;
    }

    public int walk(int s, int form) {
        if (!Sheets.isSheet(s)) {
            return finding(BEYOND);
        }
        if (sheets.isMissing(s)) {
            return finding(MISSING);
        }
        if (!Forms.isForm(form)) {
            return finding(BEYOND);
        }
        return sheets.walkOver(s, form);
    }

    // ---- images

    public int image() {
        kept.become(plain);
        isKept = true;
        return 1;
    }

    public int undo() {
        if (!isKept) {
            return finding(NONE);
        }
        plain.become(kept);
        return plain.size;
    }

    public int tear() {
        int before = isKept ? 1 : 0;
        isKept = false;
        return before;
    }

    public int count(int what) {
        switch (what) {
            case 0:
                return plain.size;
            case 1:
                return plain.book.countSigns();
            case 2:
                return tape.length;
            case 3:
                return plain.strokesOfAll();
            default:
                return finding(BEYOND);
        }
    }

    public int status(int which) {
        if (which == -1) {
            int all = 0;
            for (int i = 0; i < found.length; i++) {
                all += found[i];
            }
            return all;
        }
        if (which < 0 || which >= found.length) {
            return finding(BEYOND);
        }
        return found[which];
    }

    private int finding(int code) {
        int which = BEYOND - code;
        if (which >= 0 && which < found.length) {
            found[which]++;
        }
        return code;
    }

    private static boolean isWithin(int v, int most) {
        return v >= 0 && v <= most;
    }

    /** What can be told of a FORM by itself. */
    private static final class Forms {
        static final int STROKES = 12;
        static final int POINTS = 9;
        static final int ALL = 4095;
        private static final int[] ONE_END = {0, 1, 3, 4, 6, 7, 0, 1, 2, 3, 4, 5};
        private static final int[] OTHER_END = {1, 2, 4, 5, 7, 8, 3, 4, 5, 6, 7, 8};
        /** Both ends of each STROKE, as a set of POINTS. */
        private static final int[] ENDS = {3, 6, 24, 48, 192, 384, 9, 18, 36, 72, 144, 288};
        private static final int[] QUARTER = {8, 11, 7, 10, 6, 9, 1, 3, 5, 0, 2, 4};

        static boolean isForm(int form) {
            return form >= 0 && form <= ALL;
        }

        static boolean isPoint(long point) {
            return point >= 0 && point < POINTS;
        }

        static boolean hasStroke(int form, int stroke) {
            return (form >> stroke & 1) != 0;
        }

        /** The POINT to which a STROKE leads from one; -1 if it doesn't end there. */
        static int across(int stroke, int point) {
            if (stroke < 0 || stroke >= STROKES) {
                return -1;
            }
            if (ONE_END[stroke] == point) {
                return OTHER_END[stroke];
            }
            return OTHER_END[stroke] == point ? ONE_END[stroke] : -1;
        }

        static int oddPoints(int form) {
            int points = 0;
            for (int stroke = 0; stroke < STROKES; stroke++) {
                if ((form >> stroke & 1) != 0) {
                    points ^= ENDS[stroke];
                }
            }
            return points;
        }

        /** The STROKES that hang together with the least one. */
        static int firstPiece(int form) {
            int piece = form & -form;
            int points = 0;
            // A round that reaches no new POINT is the last one, and there are fewer POINTS than STROKES.
            for (int round = 0; round < STROKES; round++) {
                int before = points;
                for (int stroke = 0; stroke < STROKES; stroke++) {
                    int one = 1 << stroke;
                    boolean hangs = (piece & one) != 0 || (points & ENDS[stroke]) != 0;
                    if (hangs && (form & one) != 0) {
                        piece |= one;
                        points |= ENDS[stroke];
                    }
                }
                if (points == before) {
                    break;
                }
            }
            return piece;
        }

        static int countPieces(int form) {
            int pieceCount = 0;
            int rest = form;
            for (int i = 0; i < STROKES && rest != 0; i++) {
                rest &= ~firstPiece(rest);
                pieceCount++;
            }
            return pieceCount;
        }

        static int countLines(int form) {
            int lineCount = 0;
            int rest = form;
            for (int i = 0; i < STROKES && rest != 0; i++) {
                int piece = firstPiece(rest);
                lineCount += Math.max(1, Integer.bitCount(oddPoints(piece)) / 2);
                rest &= ~piece;
            }
            return lineCount;
        }

        static int countStrays(int form) {
            return Math.max(0, countLines(form) - 1);
        }

        /** Whether one walker can tread it all from a POINT on (Euler's rule, so that no way need be tried in vain). */
        static boolean canBeTrodden(int form, int point) {
            if (form == 0) {
                return true;
            }
            if (!touches(form, point) || countPieces(form) != 1) {
                return false;
            }
            int oddSet = oddPoints(form);
            return oddSet == 0 || Integer.bitCount(oddSet) == 2 && (oddSet >> point & 1) != 0;
        }

        private static boolean touches(int form, int point) {
            for (int stroke = 0; stroke < STROKES; stroke++) {
                if (hasStroke(form, stroke) && across(stroke, point) >= 0) {
                    return true;
                }
            }
            return false;
        }

        static long countWays(int form, int point, int trodden) {
            if (form == 0) {
                return 1;
            }
            if (trodden >= STROKES) {
                return 0;
            }
            long wayCount = 0;
            for (int stroke = 0; stroke < STROKES; stroke++) {
                int end = across(stroke, point);
                if (hasStroke(form, stroke) && end >= 0) {
                    wayCount += countWays(form & ~(1 << stroke), end, trodden + 1);
                }
            }
            return wayCount;
        }

        /** The i-th STROKE of the first way; -1 if there is none. */
        static int strokeOfFirstWay(int form, int point, int i) {
            if (i < 0 || i >= Integer.bitCount(form) || !canBeTrodden(form, point)) {
                return -1;
            }
            int rest = form;
            int here = point;
            int stroke = -1;
            for (int step = 0; step <= i; step++) {
                stroke = leastOnward(rest, here);
                if (stroke < 0) {
                    return -1;
                }
                here = across(stroke, here);
                rest &= ~(1 << stroke);
            }
            return stroke;
        }

        /** The least STROKE behind which the rest can still be trodden; -1 if there is none. */
        private static int leastOnward(int form, int point) {
            for (int stroke = 0; stroke < STROKES; stroke++) {
                int end = across(stroke, point);
                if (hasStroke(form, stroke) && end >= 0 && canBeTrodden(form & ~(1 << stroke), end)) {
                    return stroke;
                }
            }
            return -1;
        }

        /** The fewest of its own STROKES that make all POINTS even when trodden once more. */
        static int fewestToClose(int form) {
            int uneven = oddPoints(form);
            int fewest = Integer.bitCount(form);
            int twice = 0;
            for (int i = 0; i <= ALL; i++) {
                if (Integer.bitCount(twice) < fewest && oddPoints(twice) == uneven) {
                    fewest = Integer.bitCount(twice);
                }
                twice = nextPart(twice, form);
                if (twice == 0) {
                    break;
                }
            }
            return fewest;
        }

        /** The part of a set that is told by the next number; behind the last the empty one comes. */
        static int nextPart(int part, int whole) {
            return (part - whole) & whole;
        }

        static int byAQuarter(int form) {
            int result = 0;
            for (int stroke = 0; stroke < QUARTER.length; stroke++) {
                if (hasStroke(form, stroke)) {
                    result |= 1 << QUARTER[stroke];
                }
            }
            return result;
        }

        static int differ(int form, int other) {
            return Integer.bitCount(form ^ other);
        }

        /** The STROKE between two POINTS; -1 if there is none. */
        static int between(int point, int other) {
            for (int stroke = 0; stroke < STROKES; stroke++) {
                if (across(stroke, point) == other) {
                    return stroke;
                }
            }
            return -1;
        }
    }

    /** What the KINDS make of a FORM and of DEEP. */
    private static final class Kinds {
        static final int LETTER = 0;
        static final int CAPITAL = 1;
        static final int SOFT = 2;
        static final int CROSSED = 3;
        static final int UNDERLINED = 4;
        static final int ICY = 5;
        static final int COUNT = 6;
        private static final int CROSS = 1 << 2 | 1 << 3;
        private static final int UNDERLINE = 1 << 4 | 1 << 5;

        static boolean isKind(int kind) {
            return kind >= 0 && kind < COUNT;
        }

        /** The KIND that one is under; -1 for LETTER. */
        private static int above(int kind) {
            switch (kind) {
                case CAPITAL:
                case SOFT:
                case CROSSED:
                    return LETTER;
                case UNDERLINED:
                    return CAPITAL;
                case ICY:
                    return SOFT;
                default:
                    return -1;
            }
        }

        static boolean isUnder(int kind, int upper) {
            int at = kind;
            for (int i = 0; i < COUNT && at >= 0; i++) {
                if (at == upper) {
                    return true;
                }
                at = above(at);
            }
            return false;
        }

        static int lasts(int kind, int deep) {
            switch (kind) {
                case CAPITAL:
                case UNDERLINED:
                    return 2 * deep;
                case SOFT:
                    return deep / 2;
                case ICY:
                    return deep / 2 + 4;
                default:
                    return deep;
            }
        }

        /** What is seen when left is what has not melted of its FORM. */
        static int shows(int kind, int left) {
            switch (kind) {
                case CROSSED:
                    return left | CROSS;
                case UNDERLINED:
                    return left | UNDERLINE;
                default:
                    return left;
            }
        }

        static int feet(int kind, int form) {
            int plainFeet = Integer.bitCount(form) + Forms.countStrays(form);
            switch (kind) {
                case CAPITAL:
                    return 2 * plainFeet;
                case CROSSED:
                    return plainFeet + 2;
                case UNDERLINED:
                    return 2 * plainFeet + 2;
                default:
                    return plainFeet;
            }
        }

        private static int lastsForFeet(int kind, int form, int deep) {
            int steps = feet(kind, form);
            return steps > 0 ? lasts(kind, deep) * 100 / steps : 0;
        }

        static int longestForFeet(int form, int deep) {
            int longest = LETTER;
            int most = lastsForFeet(LETTER, form, deep);
            for (int kind = LETTER + 1; kind < COUNT; kind++) {
                int lastsFor = lastsForFeet(kind, form, deep);
                if (lastsFor > most) {
                    most = lastsFor;
                    longest = kind;
                }
            }
            return longest;
        }
    }

    /** THE BOOK: the FORMS of the SIGNS. */
    private static final class Book {
        static final int SIGNS = 26;
        private final int[] forms = new int[SIGNS];

        static boolean isSign(int sign) {
            return sign >= 0 && sign < SIGNS;
        }

        int formAt(int sign) {
            return isSign(sign) ? forms[sign] : 0;
        }

        void put(int sign, int form) {
            if (isSign(sign)) {
                forms[sign] = form;
            }
        }

        void become(Book other) {
            System.arraycopy(other.forms, 0, forms, 0, SIGNS);
        }

        int countSigns() {
            int signs = 0;
            for (int sign = 0; sign < SIGNS; sign++) {
                if (forms[sign] != 0) {
                    signs++;
                }
            }
            return signs;
        }

        /** As what SIGN a FORM is READ; -1 if the book is empty. */
        int nearest(int form) {
            int nearestSign = -1;
            int least = Forms.STROKES + 1;
            for (int sign = 0; sign < SIGNS; sign++) {
                int differs = Forms.differ(forms[sign], form);
                if (forms[sign] != 0 && differs < least) {
                    least = differs;
                    nearestSign = sign;
                }
            }
            return nearestSign;
        }

        int countAsNear(int form, int nearestSign) {
            int least = Forms.differ(formAt(nearestSign), form);
            int signs = 0;
            for (int sign = 0; sign < SIGNS; sign++) {
                if (forms[sign] != 0 && Forms.differ(forms[sign], form) == least) {
                    signs++;
                }
            }
            return signs;
        }

        /** -1 if there are no two SIGNS with FORMS. */
        int leastBetweenTwo() {
            int least = -1;
            for (int sign = 0; sign < SIGNS; sign++) {
                for (int other = 0; other < sign; other++) {
                    int differs = Forms.differ(forms[sign], forms[other]);
                    if (forms[sign] != 0 && forms[other] != 0 && (least < 0 || differs < least)) {
                        least = differs;
                    }
                }
            }
            return least;
        }

        int signsThatStay(int sunny) {
            int signs = 0;
            for (int sign = 0; sign < SIGNS; sign++) {
                if (forms[sign] != 0 && nearest(forms[sign] & ~sunny) == sign) {
                    signs |= 1 << sign;
                }
            }
            return signs;
        }

        /**
         * -1 if it can't be. A STROKE that both FORMS have, or both lack, is never worth a change: it leads away
         * from the other FORM at least as far as from any third. So only those in which they differ are tried.
         */
        int fewestToForge(int sign, int other) {
            int form = formAt(sign);
            int wanted = formAt(other);
            if (nearest(wanted) != other) {
                return -1;
            }
            int between = form ^ wanted;
            int fewest = Integer.bitCount(between);
            int part = 0;
            for (int i = 0; i <= Forms.ALL; i++) {
                if (Integer.bitCount(part) < fewest && isReadAs(form ^ part, other)) {
                    fewest = Integer.bitCount(part);
                }
                part = Forms.nextPart(part, between);
                if (part == 0) {
                    break;
                }
            }
            return fewest;
        }

        private boolean isReadAs(int form, int wanted) {
            int differs = Forms.differ(formAt(wanted), form);
            for (int sign = 0; sign < SIGNS; sign++) {
                // Of several that are as near the least is read, so one ahead must be farther.
                int least = sign < wanted ? differs + 1 : differs;
                if (forms[sign] != 0 && Forms.differ(forms[sign], form) < least) {
                    return false;
                }
            }
            return true;
        }

        int signsLeftAs(int seen, int sunny) {
            int signs = 0;
            for (int sign = 0; sign < SIGNS; sign++) {
                boolean addsNone = (seen & ~forms[sign]) == 0;
                boolean lacksSunnyOnly = (forms[sign] & ~seen & ~sunny) == 0;
                if (forms[sign] != 0 && addsNone && lacksSunnyOnly) {
                    signs |= 1 << sign;
                }
            }
            return signs;
        }

        /** -1 if the book is empty. */
        int cheapest(int kind) {
            int cheapestSign = -1;
            int fewest = 0;
            for (int sign = 0; sign < SIGNS; sign++) {
                int steps = Kinds.feet(kind, forms[sign]);
                if (forms[sign] != 0 && (cheapestSign < 0 || steps < fewest)) {
                    fewest = steps;
                    cheapestSign = sign;
                }
            }
            return cheapestSign;
        }
    }

    /** All that section 1 of the document tells but THE TAPE: what an image keeps. */
    private static final class Plain {
        static final int MOST_LETTERS = 12;
        static final int MOST_DEEP = 99;
        static final int DEEP_AT_FIRST = 6;
        private final Book book = new Book();
        private final int[] kinds = new int[MOST_LETTERS];
        private final int[] forms = new int[MOST_LETTERS];
        private final int[] deeps = new int[MOST_LETTERS];
        private int size;
        private int hour;
        private int sunny;

        void become(Plain other) {
            book.become(other.book);
            System.arraycopy(other.kinds, 0, kinds, 0, MOST_LETTERS);
            System.arraycopy(other.forms, 0, forms, 0, MOST_LETTERS);
            System.arraycopy(other.deeps, 0, deeps, 0, MOST_LETTERS);
            size = other.size;
            hour = other.hour;
            sunny = other.sunny;
        }

        boolean has(int letter) {
            return letter >= 0 && letter < size;
        }

        boolean isFull() {
            return size >= MOST_LETTERS;
        }

        /** The new LETTER's number; -1 if there is no room. */
        int add(int kind, int form, int deep) {
            if (isFull()) {
                return -1;
            }
            kinds[size] = kind;
            forms[size] = form;
            deeps[size] = deep;
            size++;
            return size - 1;
        }

        int lastsOf(int letter) {
            return Kinds.lasts(kinds[letter], deeps[letter]);
        }

        int feetOf(int letter) {
            return Kinds.feet(kinds[letter], forms[letter]);
        }

        int shownAt(int letter, int atHour) {
            int left = atHour < lastsOf(letter) ? forms[letter] : forms[letter] & ~sunny;
            return Kinds.shows(kinds[letter], left);
        }

        /** -1 if THE BOOK is empty. */
        int seenAs(int letter) {
            return book.nearest(shownAt(letter, hour));
        }

        /** Never, if THE BOOK is empty: then neither is READ. */
        boolean isMisreadAt(int letter, int atHour) {
            return book.nearest(shownAt(letter, atHour)) != book.nearest(forms[letter]);
        }

        int countChanged(int atHour) {
            int changed = 0;
            for (int letter = 0; letter < size; letter++) {
                if (shownAt(letter, hour) != shownAt(letter, atHour)) {
                    changed++;
                }
            }
            return changed;
        }

        int feetOfAll() {
            int steps = 0;
            for (int letter = 0; letter < size; letter++) {
                steps += feetOf(letter);
            }
            return steps;
        }

        int strokesOfAll() {
            int strokes = 0;
            for (int letter = 0; letter < size; letter++) {
                strokes += Integer.bitCount(forms[letter]);
            }
            return strokes;
        }

        int lettersMisread() {
            int letters = 0;
            for (int letter = 0; letter < size; letter++) {
                if (isMisreadAt(letter, hour)) {
                    letters |= 1 << letter;
                }
            }
            return letters;
        }

        int worthOf(int letter) {
            int shown = shownAt(letter, hour);
            int readAs = book.nearest(shown);
            boolean isItself = readAs >= 0 && readAs == book.nearest(forms[letter]);
            return Integer.bitCount(shown) + (isItself ? 10 : 0);
        }
    }

    /** Which LETTERS are worth most for so many FEET. */
    private static final class Choice {
        private final int[] steps = new int[Plain.MOST_LETTERS];
        private final int[] worths = new int[Plain.MOST_LETTERS];
        private int chosen;
        private int mostWorth;

        void choose(Plain plain, int mostSteps) {
            int size = plain.size;
            for (int letter = 0; letter < size; letter++) {
                steps[letter] = plain.feetOf(letter);
                worths[letter] = plain.worthOf(letter);
            }
            chosen = 0;
            mostWorth = 0;
            int letters = 0;
            int stepSum = 0;
            int worthSum = 0;
            // Each round adds or takes just one LETTER, so that the sums need not be made anew.
            for (int round = 1; round < 1 << size; round++) {
                int letter = Integer.numberOfTrailingZeros(round);
                letters ^= 1 << letter;
                int sense = (letters >> letter & 1) != 0 ? 1 : -1;
                stepSum += sense * steps[letter];
                worthSum += sense * worths[letter];
                if (stepSum <= mostSteps) {
                    offer(letters, worthSum);
                }
            }
        }

        private void offer(int letters, int worthSum) {
            if (worthSum > mostWorth || worthSum == mostWorth && letters < chosen) {
                chosen = letters;
                mostWorth = worthSum;
            }
        }
    }

    /** THE TAPE. */
    private static final class Tape {
        static final int MOST = 120;
        private final byte[] bytes = new byte[MOST];
        private int length;

        boolean hasRoomFor(int n) {
            return n <= MOST - length;
        }

        void append(int number, int n) {
            for (int i = n - 1; i >= 0 && length < MOST; i--) {
                bytes[length] = (byte) (number >> 8 * i);
                length++;
            }
        }

        int empty() {
            int before = length;
            length = 0;
            return before;
        }

        /** 0 behind the last. */
        int byteAt(int place) {
            return place >= 0 && place < length ? bytes[place] & 255 : 0;
        }
    }

    /** The TOKENS of THE TAPE (a byte that begins none stands there as NO_TOKEN); behind them all is END. */
    private static final class Tokens {
        static final int END = 0;
        static final int WORD = 1;
        static final int NUMBER = 2;
        static final int SEMICOLON = 3;
        static final int NO_TOKEN = 4;
        /** The values of WORDS; ahead of these are the names of the KINDS, by their numbers. */
        static final int SIGN = 6;
        static final int SUN = 7;
        static final int FORM = 8;
        static final int AS = 9;
        static final int DEEP = 10;
        private static final int WORDS = 11;
        private static final int ABOVE_NUMBERS = 4096;
        private final int[] types = new int[Tape.MOST];
        private final int[] starts = new int[Tape.MOST];
        private final int[] values = new int[Tape.MOST];
        private int size;
        private int length;

        void cut(Tape tape) {
            size = 0;
            length = tape.length;
            int place = 0;
            // Each round passes a byte at least, and makes one TOKEN at most.
            for (int round = 0; round < Tape.MOST && place < length; round++) {
                int type = typeOf(tape.byteAt(place));
                int behind = endOf(tape, place, type);
                if (type != END) {
                    types[size] = type;
                    starts[size] = place;
                    values[size] = type == WORD ? wordIn(tape, place, behind) : numberIn(tape, place, behind);
                    size++;
                }
                place = behind;
            }
        }

        /** Which TOKEN a byte begins; END for a blank, which begins none and may stand. */
        private static int typeOf(int sign) {
            if (sign >= 'a' && sign <= 'z') {
                return WORD;
            }
            if (sign >= '0' && sign <= '9') {
                return NUMBER;
            }
            if (sign == ';') {
                return SEMICOLON;
            }
            return sign == ' ' ? END : NO_TOKEN;
        }

        private static int endOf(Tape tape, int start, int type) {
            int behind = start + 1;
            boolean isLong = type == WORD || type == NUMBER;
            while (isLong && behind < tape.length && typeOf(tape.byteAt(behind)) == type) {
                behind++;
            }
            return behind;
        }

        /** -1 if it is none that a text may have. */
        private static int wordIn(Tape tape, int start, int behind) {
            for (int word = 0; word < WORDS; word++) {
                if (isSpelt(tape, start, behind, spellingOf(word))) {
                    return word;
                }
            }
            return -1;
        }

        private static boolean isSpelt(Tape tape, int start, int behind, String spelling) {
            if (behind - start != spelling.length()) {
                return false;
            }
            for (int i = 0; i < spelling.length(); i++) {
                if (tape.byteAt(start + i) != spelling.charAt(i)) {
                    return false;
                }
            }
            return true;
        }

        private static String spellingOf(int word) {
            switch (word) {
                case Kinds.LETTER:
                    return "letter";
                case Kinds.CAPITAL:
                    return "capital";
                case Kinds.SOFT:
                    return "soft";
                case Kinds.CROSSED:
                    return "crossed";
                case Kinds.UNDERLINED:
                    return "underlined";
                case Kinds.ICY:
                    return "icy";
                case SIGN:
                    return "sign";
                case SUN:
                    return "sun";
                case FORM:
                    return "form";
                case AS:
                    return "as";
                case DEEP:
                    return "deep";
                default:
                    return "";
            }
        }

        private static int numberIn(Tape tape, int start, int behind) {
            int value = 0;
            for (int place = start; place < behind; place++) {
                // Held just above what may be, so that no row of digits comes round to a small number.
                value = Math.min(ABOVE_NUMBERS, value * 10 + tape.byteAt(place) - '0');
            }
            return value;
        }

        int typeAt(int i) {
            return i >= 0 && i < size ? types[i] : END;
        }

        int placeAt(int i) {
            return i >= 0 && i < size ? starts[i] : length;
        }

        /** The value of a TOKEN of a type; -1 if it is of another. */
        int valueAt(int i, int type) {
            return i >= 0 && i < size && types[i] == type ? values[i] : -1;
        }
    }

    /** Reads THE TEXT of a FIELD into a plain; with a FAULT what it made of that plain is to be dropped. */
    private static final class FieldText {
        private final Tokens tokens = new Tokens();
        private int at;

        /** How many ITEMS; -1 less the place of the FAULT: that of the TOKEN at which it comes to a stop. */
        int tell(Tape tape, Plain plain) {
            tokens.cut(tape);
            at = 0;
            for (int items = 1; items <= Tape.MOST; items++) {
                if (!passItem(plain)) {
                    break;
                }
                if (tokens.typeAt(at) == Tokens.END) {
                    return items;
                }
                if (tokens.typeAt(at) != Tokens.SEMICOLON) {
                    break;
                }
                at++;
            }
            return -1 - tokens.placeAt(at);
        }

        private boolean passItem(Plain plain) {
            if (passWord(Tokens.SIGN)) {
                return passSign(plain);
            }
            if (passWord(Tokens.SUN)) {
                return passSun(plain);
            }
            int kind = tokens.valueAt(at, Tokens.WORD);
            if (!Kinds.isKind(kind) || plain.isFull()) {
                return false;
            }
            at++;
            return passLetter(plain, kind);
        }

        private boolean passSign(Plain plain) {
            int sign = passNumber(Book.SIGNS - 1);
            if (sign < 0) {
                return false;
            }
            int form = passNumber(Forms.ALL);
            if (form < 0) {
                return false;
            }
            plain.book.put(sign, form);
            return true;
        }

        private boolean passSun(Plain plain) {
            int set = passNumber(Forms.ALL);
            if (set < 0) {
                return false;
            }
            plain.sunny = set;
            return true;
        }

        private boolean passLetter(Plain plain, int kind) {
            int form = passForm(plain);
            if (form < 0) {
                return false;
            }
            int deep = Plain.DEEP_AT_FIRST;
            if (passWord(Tokens.DEEP)) {
                deep = passNumber(Plain.MOST_DEEP);
            }
            if (deep < 0) {
                return false;
            }
            plain.add(kind, form, deep);
            return true;
        }

        /** -1 if none stands here. */
        private int passForm(Plain plain) {
            if (passWord(Tokens.FORM)) {
                return passNumber(Forms.ALL);
            }
            if (!passWord(Tokens.AS)) {
                return -1;
            }
            int sign = passNumber(Book.SIGNS - 1);
            return sign < 0 ? -1 : plain.book.formAt(sign);
        }

        private boolean passWord(int word) {
            if (tokens.valueAt(at, Tokens.WORD) != word) {
                return false;
            }
            at++;
            return true;
        }

        /** -1 if no NUMBER up to the most stands here. */
        private int passNumber(int most) {
            int number = tokens.valueAt(at, Tokens.NUMBER);
            if (number < 0 || number > most) {
                return -1;
            }
            at++;
            return number;
        }
    }

    /** The SHEETS, in one row of numbers. */
    private static final class Sheets {
        static final int COUNT = 4;
        static final int MOST = 40;
        private final int[] widths = new int[COUNT];
        private final int[] sizes = new int[COUNT];
        private final long[] numbers = new long[COUNT * MOST];

        static boolean isSheet(int s) {
            return s >= 0 && s < COUNT;
        }

        static boolean isWidth(int bits) {
            return bits == 0 || bits == 8 || bits == 16 || bits == 64;
        }

        boolean isMissing(int s) {
            return !isSheet(s) || widths[s] == 0;
        }

        boolean areAlike(int s, int t) {
            return isSheet(s) && isSheet(t) && widths[s] == widths[t];
        }

        int sizeOf(int s) {
            return isSheet(s) ? sizes[s] : 0;
        }

        /** Whether it has n numbers from one on. */
        boolean holds(int s, int from, int n) {
            int size = sizeOf(s);
            return from >= 0 && n >= 0 && from <= size && n <= size - from;
        }

        int lay(int s, int bits, int n) {
            if (!isSheet(s) || n < 0 || n > MOST) {
                return 0;
            }
            widths[s] = bits;
            sizes[s] = bits == 0 ? 0 : n;
            for (int i = 0; i < MOST; i++) {
                numbers[s * MOST + i] = 0;
            }
            return sizes[s];
        }

        long at(int s, int i) {
            return i >= 0 && i < sizeOf(s) ? numbers[s * MOST + i] : 0;
        }

        void put(int s, int i, long v) {
            if (i >= 0 && i < sizeOf(s)) {
                numbers[s * MOST + i] = lowest(widths[s], v);
            }
        }

        private static long lowest(int bits, long v) {
            switch (bits) {
                case 8:
                    return (byte) v;
                case 16:
                    return (short) v;
                default:
                    return v;
            }
        }

        void move(int s, int from, int t, int to, int n) {
            if (holds(s, from, n) && holds(t, to, n)) {
                System.arraycopy(numbers, s * MOST + from, numbers, t * MOST + to, n);
            }
        }

        int toBook(int s, Book book) {
            int came = 0;
            int most = Math.min(sizeOf(s), Book.SIGNS);
            for (int sign = 0; sign < most; sign++) {
                long number = at(s, sign);
                if (number >= 0 && number <= Forms.ALL) {
                    book.put(sign, (int) number);
                    came++;
                }
            }
            return came;
        }

        /** 0 if its POINTS lead over each STROKE of a FORM just once; else 1 and the place that fails. */
        int walkOver(int s, int form) {
            int size = sizeOf(s);
            int rest = form;
            for (int i = 0; i < size; i++) {
                if (!Forms.isPoint(at(s, i))) {
                    return 1 + i;
                }
                if (i > 0) {
                    int stroke = Forms.between((int) at(s, i - 1), (int) at(s, i));
                    if (stroke < 0 || !Forms.hasStroke(rest, stroke)) {
                        return 1 + i;
                    }
                    rest &= ~(1 << stroke);
                }
            }
            return rest == 0 ? 0 : 1 + size;
        }
    }
}
