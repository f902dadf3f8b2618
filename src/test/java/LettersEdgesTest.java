import java.util.function.Supplier;

/** Promises 17 to 27 at their edges: a test of its own for each sentence that names one. */
public final class LettersEdgesTest {
    private static final Due due = new Due();
    private static final Edges edges = new Edges(due);

    public static void main(String[] args) {
        letter();
        letterFull();
        of();
        ofWhenTheBookIsEmpty();
        lasts();
        shows();
        set();
        turn();
        as();
        sun();
        hours();
        now();
        on();
        when();
        whenFindings();
        kind();
        due.end("LettersEdgesTest");
    }

    /** One LETTER of a KIND, a FORM and DEEP, with all SUN on it, at an HOUR. */
    private static SnowLetters one(int kind, int form, int deep, int hour) {
        SnowLetters x = new SnowLetters();
        x.letter(kind, form);
        x.set(0, 2, deep);
        x.sun(4095);
        goTo(x, hour);
        return x;
    }

    private static void goTo(SnowLetters x, int hour) {
        for (int rest = hour - x.now(0); rest > 0; rest -= 99) {
            x.hours(Math.min(99, rest));
        }
    }

    /** One LETTER that is READ as another SIGN when it has melted: SIGN 3 becomes SIGN 25. */
    private static Supplier<SnowLetters> melting(int kind, int deep, int hour) {
        return () -> {
            SnowLetters x = one(kind, 63, deep, hour);
            x.sign(3, 63);
            x.sign(25, 2048);
            return x;
        };
    }

    private static Supplier<SnowLetters> busyAt(int hour) {
        return () -> {
            SnowLetters x = Edges.BUSY.get();
            goTo(x, hour);
            return x;
        };
    }

    private static void letter() {
        SnowLetters x = new SnowLetters();
        due.is("17 letter: the first kind, the empty form", x.letter(0, 0), 0);
        due.is("17 letter: the last kind, the last form", x.letter(5, 4095), 1);
        due.is("17 letter: its kind", x.of(0, 0), 0);
        due.is("17 letter: its form", x.of(0, 1), 0);
        due.is("17 letter: deep 6 at first", x.of(0, 2), 6);
        due.is("17 letter: its kind", x.of(1, 0), 5);
        due.is("17 letter: its form", x.of(1, 1), 4095);
        due.is("17 letter: deep 6 at first", x.of(1, 2), 6);
        edges.outside("17 letter: kind", (y, v) -> y.letter(v, 0), 0, 5);
        edges.outside("17 letter: form", (y, v) -> y.letter(0, v), 0, 4095);
        edges.refused("17 letter: both", y -> y.letter(6, -1), Due.BEYOND);
    }

    private static void letterFull() {
        SnowLetters x = new SnowLetters();
        for (int i = 0; i < 11; i++) {
            x.letter(0, i);
        }
        x.image();
        due.is("17 letter: the 12th is taken", x.letter(5, 4095), 11);
        due.is("17 letter: the 13th is not", x.letter(0, 0), Due.FULL);
        due.is("17 letter: the 12th stays as it is", x.of(11, 1), 4095);
        due.is("17 letter: undo makes room", x.undo(), 11);
        due.is("17 letter: for one", x.letter(4, 7), 11);
        due.is("17 letter: and no more", x.letter(0, 0), Due.FULL);
        SnowLetters y = new SnowLetters();
        Due.field(y, "icy form1;icy form1;icy form1;icy form1;icy form1;icy form1");
        Due.field(y, "icy form1;icy form1;icy form1;icy form1;icy form1;icy form1");
        due.is("17 letter: full by texts", y.letter(0, 0), Due.FULL);
        edges.refused("17 letter: FULL", Edges.FULL, z -> z.letter(0, 0), Due.FULL);
        edges.refused("17 letter: FULL", Edges.FULL, z -> z.letter(5, 4095), Due.FULL);
        edges.outside("17 letter: kind, ahead of FULL", Edges.FULL, (z, v) -> z.letter(v, 0), 0, 5);
        edges.outside("17 letter: form, ahead of FULL", Edges.FULL, (z, v) -> z.letter(0, v), 0, 4095);
    }

    private static void of() {
        int[] first = {0, 3, 6, 6, 3, 2, 0, 0};
        int[] last = {5, 33, 6, 7, 33, 3, 0, 0};
        for (int what = 0; what < 8; what++) {
            int w = what;
            edges.asked("18 of: the first letter, what " + w, Edges.BUSY, x -> x.of(0, w), first[w]);
            edges.asked("18 of: the last letter, what " + w, Edges.BUSY, x -> x.of(5, w), last[w]);
            edges.outside("18 of: no letters at all", Edges.EMPTY, (x, v) -> x.of(v, w), 0, -1);
            edges.outside("18 of: letter", Edges.BUSY, (x, v) -> x.of(v, w), 0, 5);
            edges.outside("18 of: letter", Edges.FULL, (x, v) -> x.of(v, w), 0, 11);
        }
        edges.asked("18 of: the twelfth", Edges.FULL, x -> x.of(11, 1), 3311);
        edges.outside("18 of: what", Edges.BUSY, (x, v) -> x.of(0, v), 0, 7);
        edges.outside("18 of: what of the last", Edges.FULL, (x, v) -> x.of(11, v), 0, 7);
        edges.outside("18 of: what of none", Edges.EMPTY, (x, v) -> x.of(0, v), 0, 7);
    }

    private static void ofWhenTheBookIsEmpty() {
        Supplier<SnowLetters> noBook = () -> one(0, 7, 6, 0);
        Supplier<SnowLetters> oneSign = () -> {
            SnowLetters x = one(0, 7, 6, 0);
            x.sign(25, 4095);
            return x;
        };
        Supplier<SnowLetters> emptied = () -> {
            SnowLetters x = oneSign.get();
            x.sign(25, 0);
            return x;
        };
        for (int what = 6; what < 8; what++) {
            int w = what;
            edges.asked("18 of: -1, the book is empty, no finding", noBook, x -> x.of(0, w), -1);
            edges.asked("18 of: one sign is enough", oneSign, x -> x.of(0, w), 25);
            edges.asked("18 of: -1, the book is empty again", emptied, x -> x.of(0, w), -1);
        }
    }

    private static void lasts() {
        int[] deeps = {0, 1, 2, 98, 99};
        int[][] want = {{0, 1, 2, 98, 99}, {0, 2, 4, 196, 198}, {0, 0, 1, 49, 49}, {0, 1, 2, 98, 99},
            {0, 2, 4, 196, 198}, {4, 4, 5, 53, 53}};
        for (int kind = 0; kind < 6; kind++) {
            for (int i = 0; i < deeps.length; i++) {
                SnowLetters x = one(kind, 4095, deeps[i], 0);
                due.is("18 lasts: kind " + kind + ", deep " + deeps[i], x.of(0, 3), want[kind][i]);
            }
        }
    }

    /** At the last HOUR that is less than it LASTS, and at the first that isn't; its own signs never melt. */
    private static void shows() {
        int[] own = {0, 0, 0, 12, 48, 0};
        for (int kind = 0; kind < 6; kind++) {
            for (int deep : new int[] {0, 1, 2, 3, 50, 98, 99}) {
                int lasts = one(kind, 0, deep, 0).of(0, 3);
                String name = "18 shows: kind " + kind + ", deep " + deep;
                due.is(name + ", when it has lasted", one(kind, 3075, deep, lasts).of(0, 4), own[kind]);
                due.is(name + ", one later", one(kind, 3075, deep, lasts + 1).of(0, 4), own[kind]);
                if (lasts > 0) {
                    due.is(name + ", one earlier", one(kind, 3075, deep, lasts - 1).of(0, 4), 3075 | own[kind]);
                }
                due.is(name + ", of the last form", one(kind, 4095, deep, lasts).of(0, 4), own[kind]);
                due.is(name + ", of an empty form", one(kind, 0, deep, lasts).of(0, 4), own[kind]);
                due.is(name + ", at the last hour", one(kind, 4095, deep, 999).of(0, 4), own[kind]);
            }
        }
    }

    private static void set() {
        SnowLetters x = new SnowLetters();
        x.letter(2, 5);
        x.letter(3, 9);
        due.is("19 set: the first form", x.set(0, 1, 0), 5);
        due.is("19 set: the last form", x.set(0, 1, 4095), 0);
        due.is("19 set: form, what it was", x.set(0, 1, 100), 4095);
        due.is("19 set: not deep at all, what it was", x.set(0, 2, 0), 6);
        due.is("19 set: as deep as can be", x.set(0, 2, 99), 0);
        due.is("19 set: deep, what it was", x.set(0, 2, 5), 99);
        due.is("19 set: the form stays with deep", x.of(0, 1), 100);
        due.is("19 set: the other letter's form", x.of(1, 1), 9);
        due.is("19 set: the other letter's deep", x.of(1, 2), 6);
        due.is("19 set: the last letter", x.set(1, 1, 8), 9);
        due.is("19 set: none of it is a finding", x.status(-1), 0);
        edges.outside("19 set: form", Edges.BUSY, (y, v) -> y.set(0, 1, v), 0, 4095);
        edges.outside("19 set: deep", Edges.BUSY, (y, v) -> y.set(0, 2, v), 0, 99);
        edges.outside("19 set: form of the twelfth", Edges.FULL, (y, v) -> y.set(11, 1, v), 0, 4095);
        edges.outside("19 set: deep of the twelfth", Edges.FULL, (y, v) -> y.set(11, 2, v), 0, 99);
        edges.outside("19 set: what", Edges.BUSY, (y, v) -> y.set(0, v, 5), 1, 2);
        edges.outside("19 set: no letters at all", Edges.EMPTY, (y, v) -> y.set(v, 1, 5), 0, -1);
        edges.outside("19 set: letter, form", Edges.BUSY, (y, v) -> y.set(v, 1, 5), 0, 5);
        edges.outside("19 set: letter, deep", Edges.BUSY, (y, v) -> y.set(v, 2, 5), 0, 5);
        edges.outside("19 set: letter", Edges.FULL, (y, v) -> y.set(v, 2, 5), 0, 11);
        edges.like("19 set: nothing else changes", Edges.BUSY, y -> y.set(2, 2, 99), 9, y -> {
            y.set(2, 2, 1);
            return y.set(2, 2, 99);
        });
    }

    private static void turn() {
        SnowLetters x = new SnowLetters();
        x.letter(0, 5);
        x.letter(1, 6);
        due.is("20 turn: to the last kind", x.turn(0, 5), 0);
        due.is("20 turn: to the first kind", x.turn(0, 0), 5);
        due.is("20 turn: to the kind that it is", x.turn(0, 0), 0);
        due.is("20 turn: the last letter", x.turn(1, 4), 1);
        due.is("20 turn: the form stays", x.of(1, 1), 6);
        due.is("20 turn: deep stays", x.of(1, 2), 6);
        due.is("20 turn: the other letter's kind", x.of(0, 0), 0);
        due.is("20 turn: none of it is a finding", x.status(-1), 0);
        edges.outside("20 turn: kind", Edges.BUSY, (y, v) -> y.turn(0, v), 0, 5);
        edges.outside("20 turn: kind of the twelfth", Edges.FULL, (y, v) -> y.turn(11, v), 0, 5);
        edges.outside("20 turn: no letters at all", Edges.EMPTY, (y, v) -> y.turn(v, 1), 0, -1);
        edges.outside("20 turn: letter", Edges.BUSY, (y, v) -> y.turn(v, 1), 0, 5);
        edges.outside("20 turn: letter", Edges.FULL, (y, v) -> y.turn(v, 1), 0, 11);
    }

    /** Letter i of the busy scene is of KIND i. */
    private static void as() {
        String[] uppers = {"0", "01", "02", "03", "014", "025"};
        for (int kind = 0; kind < 6; kind++) {
            int k = kind;
            for (int upper = 0; upper < 6; upper++) {
                int u = upper;
                if (uppers[k].indexOf('0' + u) >= 0) {
                    edges.asked("21 as: " + k + " is " + u, Edges.BUSY, x -> x.as(k, u), k == 2 ? 9 : 6);
                } else {
                    edges.refused("21 as: " + k + " isn't " + u, Edges.BUSY, x -> x.as(k, u), Due.KIND);
                }
            }
            edges.outside("21 as: kind, ahead of KIND", Edges.BUSY, (x, v) -> x.as(k, v), 0, 5);
            edges.outside("21 as: letter", Edges.BUSY, (x, v) -> x.as(v, k), 0, 5);
            edges.outside("21 as: letter", Edges.FULL, (x, v) -> x.as(v, k), 0, 11);
            edges.outside("21 as: no letters at all", Edges.EMPTY, (x, v) -> x.as(v, k), 0, -1);
        }
        SnowLetters x = one(4, 1, 0, 0);
        due.is("21 as: not deep at all", x.as(0, 1), 0);
        x.set(0, 2, 99);
        due.is("21 as: as deep as can be", x.as(0, 0), 99);
        x.turn(0, 2);
        due.is("21 as: not any more", x.as(0, 1), Due.KIND);
    }

    private static void sun() {
        SnowLetters x = new SnowLetters();
        due.is("22 sun: on all, nothing at first", x.sun(4095), 0);
        due.is("22 sun: on none, what it was", x.sun(0), 4095);
        due.is("22 sun: what it was", x.sun(1), 0);
        due.is("22 sun: now", x.now(1), 1);
        edges.outside("22 sun: set", (y, v) -> y.sun(v), 0, 4095);
        edges.like("22 sun: nothing else changes", Edges.BUSY, y -> y.sun(0), 3, y -> {
            y.sun(4095);
            return y.sun(0);
        });
    }

    private static void hours() {
        SnowLetters x = new SnowLetters();
        due.is("23 hours: one", x.hours(1), 0);
        due.is("23 hours: 99", x.hours(99), 0);
        due.is("23 hours: 100 by now", x.now(0), 100);
        goTo(x, 998);
        due.is("23 hours: two more would be above 999", x.hours(2), Due.STATE);
        due.is("23 hours: 998 still", x.now(0), 998);
        due.is("23 hours: 999 can be", x.hours(1), 0);
        due.is("23 hours: 999 by now", x.now(0), 999);
        due.is("23 hours: none behind that", x.hours(1), Due.STATE);
        SnowLetters y = new SnowLetters();
        goTo(y, 901);
        due.is("23 hours: 99 from 901 would be above 999", y.hours(99), Due.STATE);
        due.is("23 hours: 98 from 901 are 999", y.hours(98), 0);
        SnowLetters z = new SnowLetters();
        goTo(z, 900);
        due.is("23 hours: 99 from 900 are 999", z.hours(99), 0);
        edges.outside("23 hours: n", (w, v) -> w.hours(v), 1, 99);
        edges.refused("23 hours: the hour would be above 999", Edges.FULL, w -> w.hours(1), Due.STATE);
        edges.refused("23 hours: far above 999", Edges.FULL, w -> w.hours(99), Due.STATE);
        due.is("23 hours: no letter", new SnowLetters().hours(99), 0);
        due.is("23 hours: none shows something else just ahead", one(0, 1, 99, 0).hours(98), 0);
        due.is("23 hours: one does at last", one(0, 1, 99, 0).hours(99), 1);
        due.is("23 hours: an empty form can't", one(0, 0, 6, 0).hours(99), 0);
        due.is("23 hours: it has shown so already", one(0, 1, 0, 0).hours(99), 0);
        due.is("23 hours: the cross hides it", one(3, 12, 6, 0).hours(99), 0);
        due.is("23 hours: the cross doesn't hide it", one(3, 13, 6, 0).hours(99), 1);
        due.is("23 hours: the line hides it", one(4, 48, 6, 0).hours(99), 0);
    }

    private static void now() {
        for (int what = 0; what < 4; what++) {
            int w = what;
            edges.asked("24 now: 0 of nothing, what " + w, Edges.EMPTY, x -> x.now(w), 0);
        }
        edges.asked("24 now: the last hour", Edges.FULL, x -> x.now(0), 999);
        edges.asked("24 now: sun on all", Edges.FULL, x -> x.now(1), 4095);
        edges.asked("24 now: feet of all", Edges.BUSY, x -> x.now(2), 2 + 8 + 2 + 3 + 4 + 3);
        edges.outside("24 now: what", (x, v) -> x.now(v), 0, 3);
        SnowLetters x = new SnowLetters();
        for (int i = 0; i < 12; i++) {
            x.letter(4, 277);
        }
        due.is("24 now: feet of twelve", x.now(2), 12 * (2 * (4 + 3) + 2));
        due.is("24 now: 0, the book is empty", x.now(3), 0);
        x.sign(0, 277);
        due.is("24 now: none, there is one sign alone", x.now(3), 0);
        x.sign(1, 48);
        x.sun(277);
        due.is("24 now: none yet", x.now(3), 0);
        x.hours(12);
        due.is("24 now: all twelve", x.now(3), 4095);
        x.set(0, 1, 48);
        x.set(11, 1, 48);
        due.is("24 now: all but the first and the last", x.now(3), 4095 - 1 - 2048);
        x.sign(0, 0);
        x.sign(1, 0);
        due.is("24 now: 0, the book is empty again", x.now(3), 0);
        due.is("24 now: none of it is a finding", x.status(-1), 0);
    }

    private static void on() {
        edges.asked("25 on: no hour", Edges.BUSY, x -> x.on(0, 0), 3);
        edges.asked("25 on: one hour, by which it has lasted", Edges.BUSY, x -> x.on(0, 1), 0);
        edges.asked("25 on: 99 hours, the last letter", Edges.BUSY, x -> x.on(5, 99), 32);
        edges.asked("25 on: no hour at 999", Edges.FULL, x -> x.on(11, 0), 0);
        edges.refused("25 on: one hour at 999", Edges.FULL, x -> x.on(11, 1), Due.STATE);
        edges.asked("25 on: 99 hours at 900", busyAt(900), x -> x.on(4, 99), 48);
        edges.asked("25 on: 98 hours at 901", busyAt(901), x -> x.on(4, 98), 48);
        edges.refused("25 on: 99 hours at 901", busyAt(901), x -> x.on(4, 99), Due.STATE);
        edges.outside("25 on: n", Edges.BUSY, (x, v) -> x.on(0, v), 0, 99);
        edges.outside("25 on: n, ahead of STATE", Edges.FULL, (x, v) -> x.on(0, v), 0, 99);
        edges.outside("25 on: no letters at all", Edges.EMPTY, (x, v) -> x.on(v, 0), 0, -1);
        edges.outside("25 on: letter", Edges.BUSY, (x, v) -> x.on(v, 0), 0, 5);
        edges.outside("25 on: letter, ahead of STATE", Edges.FULL, (x, v) -> x.on(v, 99), 0, 11);
    }

    private static void when() {
        edges.asked("26 when: at once, it has melted", melting(0, 6, 6), x -> x.when(0), 0);
        edges.asked("26 when: in one hour", melting(0, 6, 5), x -> x.when(0), 1);
        edges.asked("26 when: in 99 hours", melting(0, 99, 0), x -> x.when(0), 99);
        edges.refused("26 when: in 100 hours", melting(1, 50, 0), x -> x.when(0), Due.NONE);
        edges.asked("26 when: in 99 of 100 hours", melting(1, 50, 1), x -> x.when(0), 99);
        edges.asked("26 when: at 900", melting(0, 99, 900), x -> x.when(0), 0);
        edges.refused("26 when: HOUR is above 900", melting(0, 99, 901), x -> x.when(0), Due.STATE);
        edges.refused("26 when: at the last hour", melting(0, 99, 999), x -> x.when(0), Due.STATE);
        Supplier<SnowLetters> crossed = () -> {
            SnowLetters x = one(3, 1, 99, 0);
            x.sign(0, 1);
            x.sign(1, 12);
            return x;
        };
        edges.asked("26 when: at once, by its cross", crossed, x -> x.when(0), 0);
    }

    private static void whenFindings() {
        edges.refused("26 when: the book is empty", () -> one(0, 7, 6, 0), x -> x.when(0), Due.NONE);
        edges.refused("26 when: the book is empty, it has melted", () -> one(0, 7, 6, 7), x -> x.when(0), Due.NONE);
        edges.refused("26 when: STATE ahead of an empty book", () -> one(0, 7, 6, 901), x -> x.when(0), Due.STATE);
        edges.refused("26 when: never, an empty book at 900", () -> one(0, 7, 6, 900), x -> x.when(0), Due.NONE);
        edges.outside("26 when: no letters at all", Edges.EMPTY, (x, v) -> x.when(v), 0, -1);
        edges.outside("26 when: letter", Edges.BUSY, (x, v) -> x.when(v), 0, 5);
        edges.outside("26 when: letter, ahead of STATE", Edges.FULL, (x, v) -> x.when(v), 0, 11);
        edges.refused("26 when: the first letter, STATE", Edges.FULL, x -> x.when(0), Due.STATE);
        edges.refused("26 when: the twelfth letter, STATE", Edges.FULL, x -> x.when(11), Due.STATE);
    }

    private static void kind() {
        due.is("27 kind: no feet as most kinds, those have 0", one(0, 0, 6, 0).kind(0), 4);
        due.is("27 kind: no feet, no depth: all have 0", one(5, 0, 0, 0).kind(0), 0);
        due.is("27 kind: 50 as crossed, 100 as underlined", one(0, 0, 1, 0).kind(0), 4);
        due.is("27 kind: no depth: an icy one alone lasts", one(0, 1, 0, 0).kind(0), 5);
        due.is("27 kind: as long as one letter, the least", one(4, 1, 7, 0).kind(0), 0);
        due.is("27 kind: half of deep and 4 against deep 8", one(3, 1, 8, 0).kind(0), 0);
        due.is("27 kind: as deep as can be", one(3, 4095, 99, 0).kind(0), 0);
        due.is("27 kind: its own kind doesn't matter", one(4, 1, 6, 0).kind(0), 5);
        due.is("27 kind: sun and hour don't matter", one(4, 1, 6, 999).kind(0), 5);
        edges.asked("27 kind: the last letter", Edges.BUSY, x -> x.kind(5), 5);
        edges.asked("27 kind: the third letter", Edges.BUSY, x -> x.kind(2), 0);
        edges.outside("27 kind: no letters at all", Edges.EMPTY, (x, v) -> x.kind(v), 0, -1);
        edges.outside("27 kind: letter", Edges.BUSY, (x, v) -> x.kind(v), 0, 5);
        edges.outside("27 kind: letter", Edges.FULL, (x, v) -> x.kind(v), 0, 11);
    }
}
