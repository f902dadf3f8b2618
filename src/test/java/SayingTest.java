/** Promises 28 to 31: what to say, what was meant. */
public final class SayingTest {
    private static final Due due = new Due();

    public static void main(String[] args) {
        bestAndWorth();
        bestOfAllSets();
        whatWasMeant();
        cheapest();
        due.end("SayingTest");
    }

    private static void bestAndWorth() {
        SnowLetters x = new SnowLetters();
        due.is("best of no letters", x.best(9999), 0);
        due.is("worth of no letters", x.worth(9999), 0);
        x.letter(0, 3);
        x.letter(0, 5);
        x.letter(0, 0);
        due.is("best(2), empty book: 2 feet for 3, 3 for 5", x.best(2), 1);
        due.is("worth(2), empty book", x.worth(2), 2);
        due.is("best(3): of several the least", x.best(3), 1);
        due.is("best(5)", x.best(5), 3);
        due.is("worth(5)", x.worth(5), 4);
        due.is("best(4)", x.best(4), 1);
        x.sign(0, 1);
        due.is("best(0): the empty one is read as its form", x.best(0), 4);
        due.is("worth(0)", x.worth(0), 10);
        due.is("best(2)", x.best(2), 5);
        due.is("worth(2)", x.worth(2), 22);
        x.sign(1, 4);
        x.set(1, 1, 5);
        x.sun(1);
        x.hours(6);
        due.is("3 has become 2, read as 1; 5 has become 4, read as another", x.worth(9999), 11 + 1 + 10);
        due.is("best(9999)", x.best(9999), 7);
        for (int bad : new int[] {-1, 10000, Integer.MIN_VALUE, Integer.MAX_VALUE}) {
            due.is("best", x.best(bad), Due.BEYOND);
            due.is("worth", x.worth(bad), Due.BEYOND);
        }
        due.is("status(0)", x.status(0), 8);
    }

    /** All sets of the letters, by what the object itself says of each. */
    private static void bestOfAllSets() {
        java.util.Random random = new java.util.Random(9);
        for (int round = 0; round < 40; round++) {
            SnowLetters x = new SnowLetters();
            int size = random.nextInt(13);
            for (int i = 0; i < 6; i++) {
                x.sign(random.nextInt(26), random.nextInt(4096));
            }
            for (int i = 0; i < size; i++) {
                x.letter(random.nextInt(6), random.nextInt(4096));
            }
            x.sun(random.nextInt(4096));
            x.hours(1 + random.nextInt(12));
            int[] feet = new int[size];
            int[] worth = new int[size];
            for (int i = 0; i < size; i++) {
                feet[i] = x.of(i, 5);
                worth[i] = Integer.bitCount(x.of(i, 4)) + (x.of(i, 6) == x.of(i, 7) ? 10 : 0);
            }
            for (int n : new int[] {0, 9, 17, 30, 60, 100, 9999}) {
                int best = 0;
                int most = 0;
                for (int set = 0; set < 1 << size; set++) {
                    int f = 0;
                    int w = 0;
                    for (int i = 0; i < size; i++) {
                        f += (set >> i & 1) * feet[i];
                        w += (set >> i & 1) * worth[i];
                    }
                    if (f <= n && w > most) {
                        most = w;
                        best = set;
                    }
                }
                due.is("best(" + n + "), round " + round, x.best(n), best);
                due.is("worth(" + n + "), round " + round, x.worth(n), most);
            }
        }
    }

    private static void whatWasMeant() {
        SnowLetters x = new SnowLetters();
        x.letter(0, 6);
        due.is("meant, empty book", x.meant(0), 0);
        x.sign(0, 6);
        x.sign(1, 7);
        x.sign(2, 14);
        x.sign(3, 2);
        x.sign(25, 6);
        due.is("meant, no sun: itself alone", x.meant(0), 1 + (1 << 25));
        x.sun(1);
        due.is("meant: 1 may have melted", x.meant(0), 3 + (1 << 25));
        x.sun(9);
        due.is("meant: 8 too", x.meant(0), 7 + (1 << 25));
        x.sun(4);
        x.hours(6);
        due.is("meant: it shows 2", x.meant(0), 1 + 8 + (1 << 25));
        x.sun(4095);
        due.is("meant: it shows nothing, so all may be meant, but those without form", x.meant(0), 15 + (1 << 25));
        due.is("meant of none", x.meant(1), Due.BEYOND);
        due.is("meant of none", x.meant(-1), Due.BEYOND);
    }

    private static void cheapest() {
        SnowLetters x = new SnowLetters();
        due.is("cheap, empty book", x.cheap(0), Due.NONE);
        due.is("cheap of no kind, ahead of NONE", x.cheap(6), Due.BEYOND);
        due.is("cheap of no kind", x.cheap(-1), Due.BEYOND);
        x.sign(4, 33);
        due.is("cheap", x.cheap(0), 4);
        x.sign(9, 7);
        for (int kind = 0; kind < 6; kind++) {
            due.is("cheap: 33 takes three feet with its stray, 7 four", x.cheap(kind), 4);
        }
        x.sign(25, 3);
        due.is("cheap", x.cheap(4), 25);
        x.sign(20, 6);
        due.is("cheap: 6 has a stray", x.cheap(4), 25);
        x.sign(20, 48);
        due.is("cheap: of several the least", x.cheap(4), 20);
        x.sign(0, 1);
        due.is("cheap: the first sign", x.cheap(0), 0);
        x.sign(0, 3);
        due.is("cheap: the first sign, of several", x.cheap(0), 0);
        x.sign(0, 4095);
        due.is("cheap: the first sign is dear", x.cheap(0), 20);
        due.is("status(3)", x.status(3), 1);
        due.is("status(0)", x.status(0), 2);
    }
}
