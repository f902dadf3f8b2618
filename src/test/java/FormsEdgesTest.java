/** Promises 2 to 9 at their edges: a test of its own for each sentence that names one. */
public final class FormsEdgesTest {
    /** All STROKES but 1-4 and 3-4: none with more STROKES can be trodden by one walker (5 and 7 are odd). */
    private static final int TEN_STROKES = 4095 - 128 - 4;
    /** Four STROKES that don't touch one another: 0-1, 3-4, 6-7, 2-5. */
    private static final int FOUR_PIECES = 1 + 4 + 16 + 256;
    private static final Due due = new Due();
    private static final Edges edges = new Edges(due);

    public static void main(String[] args) {
        odd();
        pieces();
        lines();
        strays();
        ways();
        ith();
        again();
        turned();
        due.end("FormsEdgesTest");
    }

    private static void odd() {
        edges.asked("2 odd: the empty form", x -> x.odd(0), 0);
        edges.asked("2 odd: the last form", x -> x.odd(4095), 2 + 8 + 32 + 128);
        edges.asked("2 odd: the first stroke", x -> x.odd(1), 1 + 2);
        edges.asked("2 odd: the last stroke", x -> x.odd(2048), 32 + 256);
        edges.asked("2 odd: none of a square", x -> x.odd(197), 0);
        edges.asked("2 odd: eight points", x -> x.odd(FOUR_PIECES), 255);
        edges.outside("2 odd: form", (x, v) -> x.odd(v), 0, 4095);
    }

    private static void pieces() {
        edges.asked("3 pieces: the empty form", x -> x.pieces(0), 0);
        edges.asked("3 pieces: the last form", x -> x.pieces(4095), 1);
        edges.asked("3 pieces: the first stroke", x -> x.pieces(1), 1);
        edges.asked("3 pieces: the last stroke", x -> x.pieces(2048), 1);
        edges.asked("3 pieces: as many as can be", x -> x.pieces(FOUR_PIECES), 4);
        edges.asked("3 pieces: a point is enough to hang together", x -> x.pieces(3), 1);
        edges.asked("3 pieces: the two ends of one", x -> x.pieces(1 + 2048), 2);
        edges.outside("3 pieces: form", (x, v) -> x.pieces(v), 0, 4095);
    }

    private static void lines() {
        edges.asked("4 lines: 0 of an empty form", x -> x.lines(0), 0);
        edges.asked("4 lines: the last form", x -> x.lines(4095), 2);
        edges.asked("4 lines: 1 at least, of a piece without odd points", x -> x.lines(197), 1);
        edges.asked("4 lines: 1 at least, of each piece", x -> x.lines(197 + 2048), 2);
        edges.asked("4 lines: half of two odd points", x -> x.lines(1), 1);
        edges.asked("4 lines: half of four odd points", x -> x.lines(4 + 8 + 128 + 1024), 2);
        edges.asked("4 lines: as many as can be", x -> x.lines(FOUR_PIECES), 4);
        edges.outside("4 lines: form", (x, v) -> x.lines(v), 0, 4095);
    }

    private static void strays() {
        edges.asked("5 strays: 0 of an empty form", x -> x.strays(0), 0);
        edges.asked("5 strays: none of one line", x -> x.strays(1), 0);
        edges.asked("5 strays: one of two lines", x -> x.strays(4095), 1);
        edges.asked("5 strays: as many as can be", x -> x.strays(FOUR_PIECES), 3);
        edges.outside("5 strays: form", (x, v) -> x.strays(v), 0, 4095);
    }

    private static void ways() {
        for (int point = 0; point < 9; point++) {
            int here = point;
            edges.asked("6 ways: of an empty form 1, from " + point, x -> x.ways(0, here), 1);
            edges.asked("6 ways: none of the last form, from " + point, x -> x.ways(4095, here), 0);
        }
        edges.asked("6 ways: the first stroke from the first point", x -> x.ways(1, 0), 1);
        edges.asked("6 ways: the last stroke from the last point", x -> x.ways(2048, 8), 1);
        edges.asked("6 ways: none from a point that it doesn't touch", x -> x.ways(1, 2), 0);
        edges.asked("6 ways: none of a closed one from a point that it doesn't touch", x -> x.ways(197, 8), 0);
        edges.asked("6 ways: none from a point that isn't odd", x -> x.ways(3, 1), 0);
        edges.asked("6 ways: none of two pieces", x -> x.ways(33, 0), 0);
        edges.asked("6 ways: none of a closed piece and one apart", x -> x.ways(197 + 2048, 0), 0);
        edges.outside("6 ways: form", (x, v) -> x.ways(v, 0), 0, 4095);
        edges.outside("6 ways: point", (x, v) -> x.ways(1, v), 0, 8);
        edges.outside("6 ways: point, also of an empty form", (x, v) -> x.ways(0, v), 0, 8);
    }

    private static void ith() {
        edges.asked("7 ith: the first stroke from the first point", x -> x.ith(1, 0, 0), 0);
        edges.asked("7 ith: the last stroke from the last point", x -> x.ith(2048, 8, 0), 11);
        edges.asked("7 ith: the last of the longest way", x -> x.ith(TEN_STROKES, 5, 9) >= 0 ? 1 : 0, 1);
        edges.asked("7 ith: the least stroke leads to no way", x -> x.ith(1 + 2 + 8 + 128 + 256, 1, 0), 1);
        edges.asked("7 ith: it is the last of the way then", x -> x.ith(1 + 2 + 8 + 128 + 256, 1, 4), 0);
        edges.refused("7 ith: no i-th behind the longest way", x -> x.ith(TEN_STROKES, 5, 10), Due.NONE);
        edges.refused("7 ith: no i-th, the last i", x -> x.ith(TEN_STROKES, 5, 11), Due.NONE);
        edges.refused("7 ith: no i-th behind a way of one", x -> x.ith(2048, 8, 1), Due.NONE);
        edges.refused("7 ith: none of an empty form", x -> x.ith(0, 0, 0), Due.NONE);
        edges.refused("7 ith: there is no way", x -> x.ith(4095, 8, 11), Due.NONE);
        edges.refused("7 ith: there is no way from there", x -> x.ith(1, 2, 0), Due.NONE);
        edges.outside("7 ith: form", (x, v) -> x.ith(v, 0, 0), 0, 4095);
        edges.outside("7 ith: point", (x, v) -> x.ith(1, v, 0), 0, 8);
        edges.outside("7 ith: i", (x, v) -> x.ith(1, 0, v), 0, 11);
        edges.outside("7 ith: i, ahead of NONE", (x, v) -> x.ith(4095, 0, v), 0, 11);
        edges.outside("7 ith: i, ahead of NONE, of an empty form", (x, v) -> x.ith(0, 0, v), 0, 11);
        edges.outside("7 ith: point, ahead of NONE", (x, v) -> x.ith(4095, v, 0), 0, 8);
    }

    private static void again() {
        edges.asked("8 again: 0 of an empty form", x -> x.again(0), 0);
        edges.asked("8 again: none of one that is closed", x -> x.again(197), 0);
        edges.asked("8 again: all of a row", x -> x.again(1 + 2 + 256 + 2048), 4);
        edges.asked("8 again: the last form", x -> x.again(4095), 4);
        edges.asked("8 again: the last stroke", x -> x.again(2048), 1);
        edges.asked("8 again: own strokes alone, though another would close it", x -> x.again(197 - 1), 3);
        edges.refused("8 again: two pieces", x -> x.again(1 + 2048), Due.NONE);
        edges.refused("8 again: four pieces", x -> x.again(FOUR_PIECES), Due.NONE);
        edges.refused("8 again: two pieces, one of them closed", x -> x.again(197 + 2048), Due.NONE);
        edges.outside("8 again: form", (x, v) -> x.again(v), 0, 4095);
    }

    private static void turned() {
        int[] first = {1, 256, 32, 512};
        int[] last = {2048, 16, 64, 2};
        for (int n = 0; n < 4; n++) {
            int times = n;
            edges.asked("9 turned: the empty form by " + n, x -> x.turned(0, times), 0);
            edges.asked("9 turned: the last form by " + n, x -> x.turned(4095, times), 4095);
            edges.asked("9 turned: the first stroke by " + n, x -> x.turned(1, times), first[times]);
            edges.asked("9 turned: the last stroke by " + n, x -> x.turned(2048, times), last[times]);
        }
        edges.outside("9 turned: form", (x, v) -> x.turned(v, 0), 0, 4095);
        edges.outside("9 turned: form by the most", (x, v) -> x.turned(v, 3), 0, 4095);
        edges.outside("9 turned: n", (x, v) -> x.turned(1, v), 0, 3);
        edges.outside("9 turned: n, of an empty form", (x, v) -> x.turned(0, v), 0, 3);
    }
}
