import java.math.BigInteger;
import java.util.ArrayList;
import java.util.Arrays;
import java.util.List;
import java.util.regex.Matcher;
import java.util.regex.Pattern;

/**
 * The document written out a second time, with the Java library and as plainly as can be, for ModelTest to hold the
 * class against. It shares nothing with the class, and takes no short way: where the document says "fewest" or
 * "first", all there are are tried.
 */
final class Model {
    private static final int[][] ENDS = {
        {0, 1}, {1, 2}, {3, 4}, {4, 5}, {6, 7}, {7, 8}, {0, 3}, {1, 4}, {2, 5}, {3, 6}, {4, 7}, {5, 8}};
    private static final List<String> KINDS = List.of("letter", "capital", "soft", "crossed", "underlined", "icy");
    private static final int[] UNDER = {-1, 0, 0, 0, 1, 2};
    /** The rows of STROKES of a FORM from a POINT on: how many, and the first; made when they are asked for first. */
    private static final Long[][] WAYS = new Long[4096][9];
    private static final int[][][] FIRST = new int[4096][9][];

    private static final class Letter {
        int kind;
        int form;
        int deep = 6;

        Letter(int kind, int form) {
            this.kind = kind;
            this.form = form;
        }
    }

    /** Section 1 but THE TAPE. */
    private static final class Section {
        int[] book = new int[26];
        List<Letter> letters = new ArrayList<>();
        int hour;
        int sun;

        Section copied() {
            Section copy = new Section();
            copy.book = book.clone();
            copy.hour = hour;
            copy.sun = sun;
            for (Letter l : letters) {
                Letter other = new Letter(l.kind, l.form);
                other.deep = l.deep;
                copy.letters.add(other);
            }
            return copy;
        }
    }

    private Section here = new Section();
    private Section kept = null;
    private String tape = "";
    private final long[][] sheets = new long[4][];
    private final int[] bits = new int[4];
    private final int[] found = new int[7];

    private int finding(int code) {
        found[-1000000001 - code]++;
        return code;
    }

    private static boolean isIn(long v, long least, long most) {
        return least <= v && v <= most;
    }

    private static boolean isForm(long v) {
        return isIn(v, 0, 4095);
    }

    private static boolean has(int set, int one) {
        return set / (1 << one) % 2 == 1;
    }

    // ---- forms

    public int odd(int form) {
        return isForm(form) ? oddOf(form) : finding(Due.BEYOND);
    }

    private static int oddOf(int form) {
        int set = 0;
        for (int p = 0; p < 9; p++) {
            int ends = 0;
            for (int s = 0; s < 12; s++) {
                if (has(form, s) && (ENDS[s][0] == p || ENDS[s][1] == p)) {
                    ends++;
                }
            }
            set += ends % 2 == 1 ? 1 << p : 0;
        }
        return set;
    }

    public int pieces(int form) {
        return isForm(form) ? piecesOf(form).size() : finding(Due.BEYOND);
    }

    /** The PIECES of a FORM, each as a FORM: two that share a POINT become one, until none do. */
    private static List<Integer> piecesOf(int form) {
        List<Integer> pieces = new ArrayList<>();
        for (int s = 0; s < 12; s++) {
            if (!has(form, s)) {
                continue;
            }
            int piece = 1 << s;
            for (int i = pieces.size() - 1; i >= 0; i--) {
                if (meet(pieces.get(i), 1 << s)) {
                    piece |= pieces.remove(i);
                }
            }
            pieces.add(piece);
        }
        return pieces;
    }

    private static boolean meet(int form, int other) {
        for (int s = 0; s < 12; s++) {
            for (int t = 0; t < 12; t++) {
                boolean share = ENDS[s][0] == ENDS[t][0] || ENDS[s][0] == ENDS[t][1]
                    || ENDS[s][1] == ENDS[t][0] || ENDS[s][1] == ENDS[t][1];
                if (has(form, s) && has(other, t) && share) {
                    return true;
                }
            }
        }
        return false;
    }

    public int lines(int form) {
        return isForm(form) ? linesOf(form) : finding(Due.BEYOND);
    }

    private static int linesOf(int form) {
        int sum = 0;
        for (int piece : piecesOf(form)) {
            int half = Integer.bitCount(oddOf(piece)) / 2;
            sum += half < 1 ? 1 : half;
        }
        return sum;
    }

    public int strays(int form) {
        return isForm(form) ? straysOf(form) : finding(Due.BEYOND);
    }

    private static int straysOf(int form) {
        return form == 0 ? 0 : linesOf(form) - 1;
    }

    public long ways(int form, int point) {
        return isForm(form) && isIn(point, 0, 8) ? waysOf(form, point) : finding(Due.BEYOND);
    }

    private static long waysOf(int form, int point) {
        if (WAYS[form][point] != null) {
            return WAYS[form][point];
        }
        long sum = form == 0 ? 1 : 0;
        int[] first = form == 0 ? new int[0] : null;
        for (int s = 0; s < 12; s++) {
            if (has(form, s) && (ENDS[s][0] == point || ENDS[s][1] == point)) {
                int rest = form - (1 << s);
                int end = ENDS[s][0] + ENDS[s][1] - point;
                sum += waysOf(rest, end);
                if (first == null && FIRST[rest][end] != null) {
                    first = new int[FIRST[rest][end].length + 1];
                    first[0] = s;
                    System.arraycopy(FIRST[rest][end], 0, first, 1, first.length - 1);
                }
            }
        }
        WAYS[form][point] = sum;
        FIRST[form][point] = first;
        return sum;
    }

    public int ith(int form, int point, int i) {
        if (!isForm(form) || !isIn(point, 0, 8) || !isIn(i, 0, 11)) {
            return finding(Due.BEYOND);
        }
        waysOf(form, point);
        int[] first = FIRST[form][point];
        return first == null || i >= first.length ? finding(Due.NONE) : first[i];
    }

    public int again(int form) {
        if (!isForm(form)) {
            return finding(Due.BEYOND);
        }
        if (piecesOf(form).size() > 1) {
            return finding(Due.NONE);
        }
        int fewest = 12;
        for (int more = 0; more <= form; more++) {
            if ((more & form) == more && oddOf(more) == oddOf(form)) {
                fewest = Math.min(fewest, Integer.bitCount(more));
            }
        }
        return fewest;
    }

    public int turned(int form, int n) {
        if (!isForm(form) || !isIn(n, 0, 3)) {
            return finding(Due.BEYOND);
        }
        int now = form;
        for (int i = 0; i < n; i++) {
            int then = 0;
            for (int s = 0; s < 12; s++) {
                then |= has(now, s) ? 1 << strokeOf(turnedPoint(ENDS[s][0]), turnedPoint(ENDS[s][1])) : 0;
            }
            now = then;
        }
        return now;
    }

    /** Row r, place c becomes row c, place 2 - r. */
    private static int turnedPoint(int p) {
        return p % 3 * 3 + 2 - p / 3;
    }

    private static int strokeOf(int p, int q) {
        for (int s = 0; s < 12; s++) {
            if (ENDS[s][0] == Math.min(p, q) && ENDS[s][1] == Math.max(p, q)) {
                return s;
            }
        }
        return -1;
    }

    // ---- the book

    public int sign(int sign, int form) {
        if (!isIn(sign, 0, 25) || !isForm(form)) {
            return finding(Due.BEYOND);
        }
        int was = here.book[sign];
        here.book[sign] = form;
        return was;
    }

    public int form(int sign) {
        return isIn(sign, 0, 25) ? here.book[sign] : finding(Due.BEYOND);
    }

    /** The SIGNS that differ from a FORM in fewest STROKES, the least first. */
    private List<Integer> nearest(int form) {
        List<Integer> signs = new ArrayList<>();
        for (int differs = 0; differs <= 12 && signs.isEmpty(); differs++) {
            for (int sign = 0; sign < 26; sign++) {
                if (here.book[sign] != 0 && Integer.bitCount(here.book[sign] ^ form) == differs) {
                    signs.add(sign);
                }
            }
        }
        return signs;
    }

    private int readAs(int form) {
        List<Integer> signs = nearest(form);
        return signs.isEmpty() ? -1 : signs.get(0);
    }

    public int read(int form) {
        if (!isForm(form)) {
            return finding(Due.BEYOND);
        }
        return nearest(form).isEmpty() ? finding(Due.NONE) : nearest(form).get(0);
    }

    public int doubts(int form) {
        if (!isForm(form)) {
            return finding(Due.BEYOND);
        }
        return nearest(form).isEmpty() ? finding(Due.NONE) : nearest(form).size();
    }

    public int apart() {
        int least = 99;
        for (int a = 0; a < 26; a++) {
            for (int b = 0; b < 26; b++) {
                if (a != b && here.book[a] != 0 && here.book[b] != 0) {
                    least = Math.min(least, Integer.bitCount(here.book[a] ^ here.book[b]));
                }
            }
        }
        return least == 99 ? finding(Due.NONE) : least;
    }

    public int stay() {
        int set = 0;
        for (int sign = 0; sign < 26; sign++) {
            boolean stays = here.book[sign] != 0 && readAs(here.book[sign] & ~here.sun) == sign;
            set += stays ? 1 << sign : 0;
        }
        return set;
    }

    public int forge(int sign, int other) {
        if (!isIn(sign, 0, 25) || !isIn(other, 0, 25) || sign == other) {
            return finding(Due.BEYOND);
        }
        if (here.book[sign] == 0 || here.book[other] == 0) {
            return finding(Due.STATE);
        }
        int fewest = 99;
        for (int form = 0; form < 4096; form++) {
            int changed = Integer.bitCount(form ^ here.book[sign]);
            if (changed < fewest && readAs(form) == other) {
                fewest = changed;
            }
        }
        return fewest == 99 ? finding(Due.NONE) : fewest;
    }

    // ---- letters

    public int letter(int kind, int form) {
        if (!isIn(kind, 0, 5) || !isForm(form)) {
            return finding(Due.BEYOND);
        }
        if (here.letters.size() == 12) {
            return finding(Due.FULL);
        }
        here.letters.add(new Letter(kind, form));
        return here.letters.size() - 1;
    }

    private boolean isLetter(int letter) {
        return isIn(letter, 0, here.letters.size() - 1);
    }

    private static int lasts(int kind, int deep) {
        return switch (KINDS.get(kind)) {
            case "capital" -> 2 * lasts(0, deep);
            case "soft" -> lasts(0, deep) / 2;
            case "crossed" -> lasts(0, deep);
            case "underlined" -> lasts(1, deep);
            case "icy" -> lasts(2, deep) + 4;
            default -> deep;
        };
    }

    private int shows(Letter l, int hour) {
        int melted = hour < lasts(l.kind, l.deep) ? l.form : l.form & ~here.sun;
        return switch (KINDS.get(l.kind)) {
            case "crossed" -> melted | 4 | 8;
            case "underlined" -> melted | 16 | 32;
            default -> melted;
        };
    }

    private static int feet(int kind, int form) {
        return switch (KINDS.get(kind)) {
            case "letter" -> Integer.bitCount(form) + straysOf(form);
            case "capital" -> 2 * feet(0, form);
            case "crossed" -> feet(0, form) + 2;
            case "underlined" -> feet(1, form) + 2;
            default -> feet(UNDER[kind], form);
        };
    }

    public int of(int letter, int what) {
        if (!isLetter(letter) || !isIn(what, 0, 7)) {
            return finding(Due.BEYOND);
        }
        Letter l = here.letters.get(letter);
        return switch (what) {
            case 0 -> l.kind;
            case 1 -> l.form;
            case 2 -> l.deep;
            case 3 -> lasts(l.kind, l.deep);
            case 4 -> shows(l, here.hour);
            case 5 -> feet(l.kind, l.form);
            case 6 -> readAs(l.form);
            default -> readAs(shows(l, here.hour));
        };
    }

    public int set(int letter, int what, int v) {
        if (!isLetter(letter) || !isIn(what, 1, 2) || !isIn(v, 0, what == 1 ? 4095 : 99)) {
            return finding(Due.BEYOND);
        }
        Letter l = here.letters.get(letter);
        int was = what == 1 ? l.form : l.deep;
        if (what == 1) {
            l.form = v;
        } else {
            l.deep = v;
        }
        return was;
    }

    public int turn(int letter, int kind) {
        if (!isLetter(letter) || !isIn(kind, 0, 5)) {
            return finding(Due.BEYOND);
        }
        int was = here.letters.get(letter).kind;
        here.letters.get(letter).kind = kind;
        return was;
    }

    public int as(int letter, int kind) {
        if (!isLetter(letter) || !isIn(kind, 0, 5)) {
            return finding(Due.BEYOND);
        }
        Letter l = here.letters.get(letter);
        for (int k = l.kind; k >= 0; k = UNDER[k]) {
            if (k == kind) {
                return l.deep;
            }
        }
        return finding(Due.KIND);
    }

    public int sun(int set) {
        if (!isForm(set)) {
            return finding(Due.BEYOND);
        }
        int was = here.sun;
        here.sun = set;
        return was;
    }

    public int hours(int n) {
        if (!isIn(n, 1, 99)) {
            return finding(Due.BEYOND);
        }
        if (here.hour + n > 999) {
            return finding(Due.STATE);
        }
        int[] before = here.letters.stream().mapToInt(l -> shows(l, here.hour)).toArray();
        here.hour += n;
        int[] behind = here.letters.stream().mapToInt(l -> shows(l, here.hour)).toArray();
        int changed = 0;
        for (int i = 0; i < before.length; i++) {
            changed += before[i] == behind[i] ? 0 : 1;
        }
        return changed;
    }

    public int now(int what) {
        int set = 0;
        int steps = 0;
        for (int i = 0; i < here.letters.size(); i++) {
            Letter l = here.letters.get(i);
            set += readAs(shows(l, here.hour)) == readAs(l.form) ? 0 : 1 << i;
            steps += feet(l.kind, l.form);
        }
        return switch (what) {
            case 0 -> here.hour;
            case 1 -> here.sun;
            case 2 -> steps;
            case 3 -> set;
            default -> finding(Due.BEYOND);
        };
    }

    public int on(int letter, int n) {
        if (!isLetter(letter) || !isIn(n, 0, 99)) {
            return finding(Due.BEYOND);
        }
        return here.hour + n > 999 ? finding(Due.STATE) : shows(here.letters.get(letter), here.hour + n);
    }

    public int when(int letter) {
        if (!isLetter(letter)) {
            return finding(Due.BEYOND);
        }
        if (here.hour > 900) {
            return finding(Due.STATE);
        }
        Letter l = here.letters.get(letter);
        for (int n = 0; n <= 99; n++) {
            if (readAs(shows(l, here.hour + n)) != readAs(l.form)) {
                return n;
            }
        }
        return finding(Due.NONE);
    }

    public int kind(int letter) {
        if (!isLetter(letter)) {
            return finding(Due.BEYOND);
        }
        Letter l = here.letters.get(letter);
        int[] each = new int[6];
        for (int k = 0; k < 6; k++) {
            each[k] = feet(k, l.form) == 0 ? 0 : lasts(k, l.deep) * 100 / feet(k, l.form);
        }
        int most = Arrays.stream(each).max().getAsInt();
        for (int k = 0; k < 6; k++) {
            if (each[k] == most) {
                return k;
            }
        }
        return -1;
    }

    // ---- what to say, what was meant

    private int worthOf(int letter) {
        Letter l = here.letters.get(letter);
        int shown = shows(l, here.hour);
        boolean isBook = readAs(shown) != -1;
        return Integer.bitCount(shown) + (isBook && readAs(shown) == readAs(l.form) ? 10 : 0);
    }

    /** The best set, and what it is worth. */
    private int[] bestOf(int n) {
        int size = here.letters.size();
        int[] steps = new int[size];
        int[] worths = new int[size];
        for (int i = 0; i < size; i++) {
            steps[i] = feet(here.letters.get(i).kind, here.letters.get(i).form);
            worths[i] = worthOf(i);
        }
        int[] best = {0, 0};
        for (int set = (1 << size) - 1; set >= 0; set--) {
            int stepSum = 0;
            int worthSum = 0;
            for (int i = 0; i < size; i++) {
                stepSum += has(set, i) ? steps[i] : 0;
                worthSum += has(set, i) ? worths[i] : 0;
            }
            if (stepSum <= n && worthSum >= best[1]) {
                best = new int[] {set, worthSum};
            }
        }
        return best;
    }

    public int best(int n) {
        return isIn(n, 0, 9999) ? bestOf(n)[0] : finding(Due.BEYOND);
    }

    public int worth(int n) {
        return isIn(n, 0, 9999) ? bestOf(n)[1] : finding(Due.BEYOND);
    }

    public int meant(int letter) {
        if (!isLetter(letter)) {
            return finding(Due.BEYOND);
        }
        int shown = shows(here.letters.get(letter), here.hour);
        int set = 0;
        for (int sign = 0; sign < 26; sign++) {
            boolean may = here.book[sign] != 0;
            for (int s = 0; s < 12; s++) {
                if (has(shown, s) && !has(here.book[sign], s)) {
                    may = false;
                }
                if (has(here.book[sign], s) && !has(shown, s) && !has(here.sun, s)) {
                    may = false;
                }
            }
            set += may ? 1 << sign : 0;
        }
        return set;
    }

    public int cheap(int kind) {
        if (!isIn(kind, 0, 5)) {
            return finding(Due.BEYOND);
        }
        int cheapest = -1;
        for (int sign = 25; sign >= 0; sign--) {
            boolean is = here.book[sign] != 0;
            if (is && (cheapest < 0 || feet(kind, here.book[sign]) <= feet(kind, here.book[cheapest]))) {
                cheapest = sign;
            }
        }
        return cheapest < 0 ? finding(Due.NONE) : cheapest;
    }

    // ---- the text

    public int feed(int bytes, int n) {
        if (!isIn(n, 1, 4)) {
            return finding(Due.BEYOND);
        }
        if (tape.length() + n > 120) {
            return finding(Due.FULL);
        }
        for (int i = n - 1; i >= 0; i--) {
            tape += (char) (bytes >>> 8 * i & 255);
        }
        return tape.length();
    }

    public int wipe() {
        int was = tape.length();
        tape = "";
        return was;
    }

    /** A FAULT, by its place. */
    private static final class Fault extends Exception {
        private static final long serialVersionUID = 1;
        final int place;

        Fault(int place) {
            this.place = place;
        }
    }

    private static final Pattern TOKEN = Pattern.compile("[a-z]+|[0-9]+|;|[^ ]", Pattern.DOTALL);

    private Matcher tokens;
    private boolean isToken;

    public int field() {
        Section before = here.copied();
        tokens = TOKEN.matcher(tape);
        isToken = tokens.find();
        int answer;
        try {
            answer = text();
        } catch (Fault fault) {
            here = before;
            answer = -1 - fault.place;
        }
        tape = "";
        return answer;
    }

    private boolean stands(String regex) {
        return isToken && tokens.group().matches(regex);
    }

    /** Passes the TOKEN that stands here, which must be so. */
    private String pass(String regex) throws Fault {
        if (!isToken) {
            throw new Fault(tape.length());
        }
        if (!stands(regex)) {
            throw new Fault(tokens.start());
        }
        String token = tokens.group();
        isToken = tokens.find();
        return token;
    }

    private int number(int most) throws Fault {
        int place = isToken ? tokens.start() : 0;
        BigInteger v = new BigInteger(pass("[0-9]+"));
        if (v.compareTo(BigInteger.valueOf(most)) > 0) {
            throw new Fault(place);
        }
        return v.intValue();
    }

    private int text() throws Fault {
        int items = 1;
        item();
        while (isToken) {
            pass(";");
            item();
            items++;
        }
        return items;
    }

    private void item() throws Fault {
        if (stands("sun")) {
            pass("sun");
            here.sun = number(4095);
        } else if (stands("sign")) {
            pass("sign");
            int sign = number(25);
            here.book[sign] = number(4095);
        } else {
            String name = pass(here.letters.size() < 12 ? String.join("|", KINDS) : "no more");
            boolean isForm = stands("form");
            pass("form|as");
            Letter l = new Letter(KINDS.indexOf(name), isForm ? number(4095) : here.book[number(25)]);
            if (stands("deep")) {
                pass("deep");
                l.deep = number(99);
            }
            here.letters.add(l);
        }
    }

    // ---- sheets

    public int sheet(int s, int width, int n) {
        if (!isIn(s, 0, 3) || !List.of(0, 8, 16, 64).contains(width)) {
            return finding(Due.BEYOND);
        }
        if (n < 0) {
            return finding(Due.SIZE);
        }
        if (n > 40) {
            return finding(Due.BEYOND);
        }
        bits[s] = width;
        sheets[s] = width == 0 ? null : new long[n];
        return width == 0 ? 0 : n;
    }

    private static long cut(long v, int width) {
        return v << 64 - width >> 64 - width;
    }

    public long write(int s, int i, long v) {
        if (!isIn(s, 0, 3)) {
            return finding(Due.BEYOND);
        }
        if (sheets[s] == null) {
            return finding(Due.MISSING);
        }
        if (!isIn(i, 0, sheets[s].length - 1)) {
            return finding(Due.BEYOND);
        }
        long was = sheets[s][i];
        sheets[s][i] = cut(v, bits[s]);
        return was;
    }

    public int copy(int s, int from, int t, int to, int n) {
        if (!isIn(s, 0, 3) || !isIn(t, 0, 3)) {
            return finding(Due.BEYOND);
        }
        if (sheets[s] == null || sheets[t] == null) {
            return finding(Due.MISSING);
        }
        if (bits[s] != bits[t]) {
            return finding(Due.KIND);
        }
        boolean isMore = (long) from + n > sheets[s].length || (long) to + n > sheets[t].length;
        if (isMore || from < 0 || to < 0 || n < 0) {
            return finding(Due.BEYOND);
        }
        long[] were = sheets[s].clone();
        for (int i = 0; i < n; i++) {
            sheets[t][to + i] = were[from + i];
        }
        return n;
    }

    public int lays(int s) {
        if (!isIn(s, 0, 3)) {
            return finding(Due.BEYOND);
        }
        if (sheets[s] == null) {
            return finding(Due.MISSING);
        }
        int came = 0;
        for (int i = 0; i < sheets[s].length; i++) {
            if (i < 26 && isForm(sheets[s][i])) {
                here.book[i] = (int) sheets[s][i];
                came++;
            }
        }
        return came;
    }

    public int show(int s) {
        if (!isIn(s, 0, 3)) {
            return finding(Due.BEYOND);
        }
        if (sheets[s] == null) {
            return finding(Due.MISSING);
        }
        int i = 0;
        while (i < sheets[s].length && i < here.letters.size()) {
            sheets[s][i] = readAs(shows(here.letters.get(i), here.hour));
            i++;
        }
        return i;
    }

    public int walk(int s, int form) {
        if (!isIn(s, 0, 3)) {
            return finding(Due.BEYOND);
        }
        if (sheets[s] == null) {
            return finding(Due.MISSING);
        }
        if (!isForm(form)) {
            return finding(Due.BEYOND);
        }
        int left = form;
        for (int i = 0; i < sheets[s].length; i++) {
            long p = sheets[s][i];
            if (!isIn(p, 0, 8)) {
                return 1 + i;
            }
            int stroke = i == 0 ? -1 : strokeOf((int) sheets[s][i - 1], (int) p);
            if (i > 0 && (stroke < 0 || !has(left, stroke))) {
                return 1 + i;
            }
            left -= i == 0 ? 0 : 1 << stroke;
        }
        return left == 0 ? 0 : 1 + sheets[s].length;
    }

    // ---- images

    public int image() {
        kept = here.copied();
        return 1;
    }

    public int undo() {
        if (kept == null) {
            return finding(Due.NONE);
        }
        here = kept.copied();
        return here.letters.size();
    }

    public int tear() {
        int was = kept == null ? 0 : 1;
        kept = null;
        return was;
    }

    public int count(int what) {
        int signs = 0;
        for (int form : here.book) {
            signs += form == 0 ? 0 : 1;
        }
        return switch (what) {
            case 0 -> here.letters.size();
            case 1 -> signs;
            case 2 -> tape.length();
            case 3 -> here.letters.stream().mapToInt(l -> Integer.bitCount(l.form)).sum();
            default -> finding(Due.BEYOND);
        };
    }

    public int status(int which) {
        if (which == -1) {
            return Arrays.stream(found).sum();
        }
        return isIn(which, 0, 6) ? found[which] : finding(Due.BEYOND);
    }
}
