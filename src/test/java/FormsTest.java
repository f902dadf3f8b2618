import java.util.ArrayDeque;
import java.util.ArrayList;
import java.util.Arrays;
import java.util.List;

/** Promises 2 to 9: every FORM, against plain searches that know no rule but the terms. */
public final class FormsTest {
    private static final int[][] STROKES = {
        {0, 1}, {1, 2}, {3, 4}, {4, 5}, {6, 7}, {7, 8}, {0, 3}, {1, 4}, {2, 5}, {3, 6}, {4, 7}, {5, 8}};
    private static final int[] TURNED_POINT = {2, 5, 8, 1, 4, 7, 0, 3, 6};
    private static final Due due = new Due();
    private static SnowLetters x = new SnowLetters();
    private static int calls = 0;

    /** An object is good for 512 calls. */
    private static SnowLetters fresh() {
        calls++;
        if (calls % 500 == 0) {
            x = new SnowLetters();
        }
        return x;
    }

    public static void main(String[] args) {
        oddPoints();
        piecesAndLines();
        waysAndIth();
        againOfAll();
        turnedOfAll();
        edges();
        due.end("FormsTest");
    }

    private static void oddPoints() {
        for (int form = 0; form < 4096; form++) {
            int[] ends = new int[9];
            for (int s = 0; s < 12; s++) {
                if ((form >> s & 1) != 0) {
                    ends[STROKES[s][0]]++;
                    ends[STROKES[s][1]]++;
                }
            }
            int want = 0;
            for (int p = 0; p < 9; p++) {
                if (ends[p] % 2 == 1) {
                    want += 1 << p;
                }
            }
            due.is("odd(" + form + ")", fresh().odd(form), want);
        }
    }

    private static int other(int stroke, int point) {
        if (STROKES[stroke][0] == point) {
            return STROKES[stroke][1];
        }
        return STROKES[stroke][1] == point ? STROKES[stroke][0] : -1;
    }

    private static void markTrails(boolean[] isTrail, int trodden, int point) {
        isTrail[trodden] = true;
        for (int s = 0; s < 12; s++) {
            if ((trodden >> s & 1) == 0 && other(s, point) >= 0) {
                markTrails(isTrail, trodden | 1 << s, other(s, point));
            }
        }
    }

    private static int rootOf(int[] roots, int p) {
        return roots[p] == p ? p : rootOf(roots, roots[p]);
    }

    private static int pieces(int form) {
        int[] roots = {0, 1, 2, 3, 4, 5, 6, 7, 8};
        boolean[] touched = new boolean[9];
        for (int s = 0; s < 12; s++) {
            if ((form >> s & 1) != 0) {
                roots[rootOf(roots, STROKES[s][0])] = rootOf(roots, STROKES[s][1]);
                touched[STROKES[s][0]] = true;
                touched[STROKES[s][1]] = true;
            }
        }
        int n = 0;
        for (int p = 0; p < 9; p++) {
            if (touched[p] && roots[p] == p) {
                n++;
            }
        }
        return n;
    }

    /** LINES by their meaning: as few trails as can be that tread each STROKE just once. */
    private static void piecesAndLines() {
        boolean[] isTrail = new boolean[4096];
        for (int p = 0; p < 9; p++) {
            markTrails(isTrail, 0, p);
        }
        int[] fewest = new int[4096];
        for (int form = 1; form < 4096; form++) {
            fewest[form] = 99;
            for (int part = form; part > 0; part = part - 1 & form) {
                if (isTrail[part]) {
                    fewest[form] = Math.min(fewest[form], 1 + fewest[form & ~part]);
                }
            }
        }
        for (int form = 0; form < 4096; form++) {
            due.is("pieces(" + form + ")", fresh().pieces(form), pieces(form));
            due.is("lines(" + form + ")", fresh().lines(form), fewest[form]);
            due.is("strays(" + form + ")", fresh().strays(form), Math.max(0, fewest[form] - 1));
        }
    }

    private static void list(int rest, int point, List<Integer> row, List<List<Integer>> rows) {
        if (rest == 0) {
            rows.add(new ArrayList<>(row));
        }
        for (int s = 0; s < 12; s++) {
            if ((rest >> s & 1) != 0 && other(s, point) >= 0) {
                row.add(s);
                list(rest & ~(1 << s), other(s, point), row, rows);
                row.remove(row.size() - 1);
            }
        }
    }

    /** The search takes the least STROKE first, so its first row is the least one. */
    private static void waysAndIth() {
        for (int form = 0; form < 4096; form++) {
            for (int p = 0; p < 9; p++) {
                List<List<Integer>> rows = new ArrayList<>();
                list(form, p, new ArrayList<>(), rows);
                due.is("ways(" + form + ", " + p + ")", fresh().ways(form, p), rows.size());
                for (int i = 0; i < 12; i++) {
                    boolean has = rows.size() > 0 && i < rows.get(0).size();
                    int want = has ? rows.get(0).get(i) : Due.NONE;
                    due.is("ith(" + form + ", " + p + ", " + i + ")", fresh().ith(form, p, i), want);
                }
            }
        }
    }

    /** The shortest closed walk over all STROKES of a FORM and no other. */
    private static int closedWalk(int form) {
        int start = STROKES[Integer.numberOfTrailingZeros(form)][0];
        int[] steps = new int[4096 * 9];
        Arrays.fill(steps, -1);
        ArrayDeque<Integer> open = new ArrayDeque<>();
        open.add(start);
        steps[start] = 0;
        while (!open.isEmpty()) {
            int at = open.remove();
            int trodden = at / 9;
            if (trodden == form && at % 9 == start) {
                return steps[at];
            }
            for (int s = 0; s < 12; s++) {
                int end = other(s, at % 9);
                int then = (trodden | 1 << s) * 9 + end;
                if ((form >> s & 1) != 0 && end >= 0 && steps[then] < 0) {
                    steps[then] = steps[at] + 1;
                    open.add(then);
                }
            }
        }
        return -1;
    }

    private static void againOfAll() {
        due.is("again(0)", fresh().again(0), 0);
        for (int form = 1; form < 4096; form++) {
            int want = pieces(form) > 1 ? Due.NONE : closedWalk(form) - Integer.bitCount(form);
            due.is("again(" + form + ")", fresh().again(form), want);
        }
    }

    private static int turned(int form) {
        int result = 0;
        for (int s = 0; s < 12; s++) {
            for (int t = 0; t < 12; t++) {
                boolean ends = other(t, TURNED_POINT[STROKES[s][0]]) == TURNED_POINT[STROKES[s][1]];
                if ((form >> s & 1) != 0 && ends) {
                    result |= 1 << t;
                }
            }
        }
        return result;
    }

    private static void turnedOfAll() {
        for (int form = 0; form < 4096; form++) {
            int want = form;
            for (int n = 0; n < 4; n++) {
                due.is("turned(" + form + ", " + n + ")", fresh().turned(form, n), want);
                want = turned(want);
            }
            due.is("four quarters of " + form, want, form);
        }
    }

    private static void edges() {
        x = new SnowLetters();
        int[] noForms = {-1, 4096, Integer.MIN_VALUE, Integer.MAX_VALUE};
        int told = 0;
        for (int form : noForms) {
            due.is("odd", x.odd(form), Due.BEYOND);
            due.is("pieces", x.pieces(form), Due.BEYOND);
            due.is("lines", x.lines(form), Due.BEYOND);
            due.is("strays", x.strays(form), Due.BEYOND);
            due.is("ways", x.ways(form, 0), Due.BEYOND);
            due.is("ith", x.ith(form, 0, 0), Due.BEYOND);
            due.is("again", x.again(form), Due.BEYOND);
            due.is("turned", x.turned(form, 0), Due.BEYOND);
            told += 8;
        }
        for (int point : new int[] {-1, 9, Integer.MIN_VALUE, Integer.MAX_VALUE}) {
            due.is("ways at no point", x.ways(1, point), Due.BEYOND);
            due.is("ways of the empty form at no point", x.ways(0, point), Due.BEYOND);
            due.is("ith at no point", x.ith(1, point, 0), Due.BEYOND);
            told += 3;
        }
        for (int i : new int[] {-1, 12, Integer.MIN_VALUE, Integer.MAX_VALUE}) {
            due.is("ith out of place", x.ith(1, 0, i), Due.BEYOND);
            due.is("ith out of place of none", x.ith(33, 0, i), Due.BEYOND);
            told += 2;
        }
        for (int n : new int[] {-1, 4, Integer.MIN_VALUE, Integer.MAX_VALUE}) {
            due.is("turned by too much", x.turned(1, n), Due.BEYOND);
            told++;
        }
        due.is("status(0)", x.status(0), told);
        due.is("status(-1)", x.status(-1), told);
    }
}
