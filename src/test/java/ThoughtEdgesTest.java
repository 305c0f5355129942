import java.math.BigInteger;

/** Promises 20 to 22 at their edges. */
public final class ThoughtEdgesTest {
    private static final int MIN = Integer.MIN_VALUE;
    private static final int MAX = Integer.MAX_VALUE;

    public static void main(String[] args) {
        sparedIsBad();
        sparedOfOneThatIsNotWritten();
        sparedByRoom();
        sparedOfOneSide();
        drawnIsBad();
        drawnOnce();
        drawnAgainAndAgain();
        drawnTakesAnySeed();
        drawnOfThingsEver();
        drawnRefusals();
        chanceIsBad();
        chanceOfOneSeed();
        chanceWrapsAround();
        chanceInLowestTerms();
        thoughtsChangeNothing();
        Check.end("ThoughtEdgesTest");
    }

    private static void sparedIsBad() {
        int[][] all = {
            {-1, 0}, {2, 0}, {3, 0}, {MIN, 0}, {MAX, 0}, {0, -1}, {0, 7}, {0, MIN}, {0, MAX}, {2, 3},
        };
        for (int[] a : all) {
            Probe.refuses("spared " + a[0] + " " + a[1], x -> x.spared(a[0], a[1]), -2);
        }
    }

    /** "STATE: it isn't WRITTEN there." */
    private static void sparedOfOneThatIsNotWritten() {
        Probe.refuses("gone", x -> x.spared(0, 3), -3);
        Probe.refuses("unchanged", x -> x.spared(0, 4), -3);
        Probe.refuses("unchanged on 1", x -> x.spared(1, 3), -3);
        Probe.refuses("come", x -> x.spared(0, 5), -3);
        Probe.refuses("not there", x -> x.spared(1, 5), -3);
        Probe.refuses("a folder", x -> x.spared(0, 1), -3);
        TwoTreesAlike x = Probe.busy();
        x.write(0, 5, 5);
        Check.is("come and written", x.spared(0, 5), -3);
        x.move(0, 4, -1, 30);
        Check.is("moved", x.spared(0, 4), -3);
        x.write(0, 4, 7);
        Check.is("moved and written: it is kept all the same", x.spared(0, 4), 0);
        x.move(0, 4, 1, 14);
        Check.is("written: it would not be kept", x.spared(0, 4), 1);
        x.write(0, 4, 6);
        Check.is("as it was", x.spared(0, 4), -3);
        x.pattern();
        Check.is("a pattern", Check.pattern(x, "10"), 3);
        Check.is("ignored", x.spared(0, 0), -3);
        Check.is("ignored on 1", x.spared(1, 0), -3);
    }

    /** A CONTENT that is spared leaves room for another new THING. */
    private static void sparedByRoom() {
        for (int n = 27; n <= 30; n++) {
            TwoTreesAlike x = new TwoTreesAlike();
            for (int i = 0; i < n; i++) {
                x.make(0, -1, i, 1);
            }
            x.sync();
            for (int i = 0; i < 2; i++) {
                x.write(0, i, 2);
                x.write(1, i, 3);
            }
            int due = n <= 28 ? 2 : 1;
            Check.is("of " + n, x.would(0), 2 + Math.min(2, 30 - n));
            for (int i = 0; i < 4; i++) {
                Check.is("spared of " + n, x.spared(i % 2, i / 2), due);
            }
        }
    }

    private static void sparedOfOneSide() {
        for (int first = 0; first < 2; first++) {
            TwoTreesAlike x = new TwoTreesAlike();
            x.make(0, -1, 10, 5);
            x.make(0, -1, 11, 5);
            x.sync();
            x.prefer(first);
            x.write(first, 0, 6);
            x.remove(1 - first, 0);
            x.write(0, 1, 7);
            x.write(1, 1, 7);
            Check.is("kept by that alone", x.spared(first, 0), 1);
            Check.is("alike, no clash less", x.spared(0, 1), 0);
            Check.is("nor on the other side", x.spared(1, 1), 0);
            x.write(1, 1, 8);
            Check.is("unlike", x.spared(0, 1), 2);
            Check.is("unlike on the other side", x.spared(1, 1), 2);
            Check.is("in thought", x.would(0), 3);
        }
    }

    private static void drawnIsBad() {
        for (int n : new int[] {-1, 21, MIN, MAX}) {
            for (int seed : new int[] {0, 1, MIN, MAX}) {
                Probe.refuses("drawn " + seed + " " + n, x -> x.drawn(seed, n), -2);
            }
        }
    }

    /** The next z of a SEED, reckoned without an int that wraps around. */
    private static int next(int z) {
        BigInteger product = BigInteger.valueOf(z).multiply(BigInteger.valueOf(1103515245L));
        return product.add(BigInteger.valueOf(12345)).intValue();
    }

    private static int number(int z, int below) {
        long unsigned = z & 0xFFFFFFFFL;
        return (int) (unsigned / 512 % below);
    }

    /** THINGS 0 .. n - 1 are FILES of CONTENT 3 in THE ROOT, under 10 and so on; SIDE 1 has none any longer. */
    private static TwoTreesAlike goneOnOne(int n) {
        return goneOnOne(n, 3);
    }

    private static TwoTreesAlike goneOnOne(int n, int content) {
        TwoTreesAlike x = new TwoTreesAlike();
        for (int i = 0; i < n; i++) {
            x.make(0, -1, 10 + i, content);
        }
        x.sync();
        for (int i = 0; i < n; i++) {
            x.remove(1, i);
        }
        return x;
    }

    private static int keptOf(int n, int seed, int times) {
        return keptOf(n, n, seed, times, true);
    }

    /** How many of goneOnOne(n) are KEPT when all is drawn, with so many THINGS ever: those MOVED or WRITTEN on SIDE 0. */
    private static int keptOf(int n, int ever, int seed, int times, boolean areFiles) {
        int[] content = new int[n];
        int[] name = new int[n];
        boolean[] isGone = new boolean[n];
        for (int i = 0; i < n; i++) {
            content[i] = 3;
            name[i] = 10 + i;
        }
        int z = seed;
        for (int k = 0; k < times; k++) {
            int[] drawn = new int[4];
            for (int i = 0; i < 4; i++) {
                z = next(z);
                drawn[i] = number(z, i == 0 ? 2 : i == 1 ? ever : i == 2 ? 3 : 50);
            }
            int thing = drawn[1];
            if (drawn[0] == 1 || thing >= n || isGone[thing]) {
                continue;
            }
            boolean isTaken = false;
            for (int i = 0; i < n; i++) {
                isTaken |= !isGone[i] && i != thing && name[i] == drawn[3];
            }
            if (drawn[2] == 0 && areFiles) {
                content[thing] = drawn[3];
            } else if (drawn[2] == 1 && !isTaken) {
                name[thing] = drawn[3];
            } else if (drawn[2] == 2) {
                isGone[thing] = true;
            }
        }
        int kept = 0;
        for (int i = 0; i < n; i++) {
            kept += !isGone[i] && (content[i] != 3 || name[i] != 10 + i) ? 1 : 0;
        }
        return kept;
    }

    private static void drawnOnce() {
        TwoTreesAlike x = goneOnOne(1);
        int kept = 0;
        for (int seed = -200; seed < 200; seed++) {
            int due = keptOf(1, seed, 1);
            kept += due;
            Check.is("drawn " + seed + " once", x.drawn(seed, 1), due);
        }
        Check.holds("some are kept, some not", kept > 50 && kept < 350);
    }

    private static void drawnAgainAndAgain() {
        for (int n = 1; n <= 30; n += n < 3 ? 1 : 9) {
            TwoTreesAlike x = goneOnOne(n);
            for (int times = 0; times <= 20; times++) {
                for (int k = 0; k < 20; k++) {
                    int seed = next(times * 1000 + k);
                    Check.is("drawn " + seed + ", " + times, x.drawn(seed, times), keptOf(n, seed, times));
                }
            }
        }
    }

    private static void drawnTakesAnySeed() {
        TwoTreesAlike x = goneOnOne(10);
        for (int seed : new int[] {MIN, MIN + 1, -12345, -1, 0, 1, 12345, 1103515245, MAX - 1, MAX}) {
            for (int n : new int[] {0, 1, 19, 20}) {
                Check.is("drawn " + seed + ", " + n, x.drawn(seed, n), keptOf(10, seed, n));
            }
        }
        TwoTreesAlike y = new TwoTreesAlike();
        for (int seed : new int[] {MIN, -1, 0, 1, MAX}) {
            Check.is("of none", y.drawn(seed, 20), 0);
            Check.is("of none, not once", y.drawn(seed, 0), 0);
        }
    }

    /** "THING (z >>> 9) % (how many THINGS there were": ever, also those that are nowhere. */
    private static void drawnOfThingsEver() {
        TwoTreesAlike x = goneOnOne(2);
        x.make(0, -1, 40, 1);
        x.remove(0, 2);
        int unlike = 0;
        for (int seed = 0; seed < 100; seed++) {
            int due = keptOf(2, 3, seed, 1, true);
            unlike += due == keptOf(2, seed, 1) ? 0 : 1;
            Check.is("drawn of three, " + seed, x.drawn(seed, 1), due);
            Check.is("drawn of three, twenty times, " + seed, x.drawn(seed, 20), keptOf(2, 3, seed, 20, true));
        }
        Check.holds("of two it would be otherwise", unlike > 10);
    }

    /** "each as the call does, nothing if that refuses": a FOLDER isn't WRITTEN, a NAME that is TAKEN stays. */
    private static void drawnRefusals() {
        for (int n = 1; n <= 30; n += 29) {
            TwoTreesAlike x = goneOnOne(n, -1);
            int times = n == 1 ? 2 : 20;
            int unlike = 0;
            for (int seed = 0; seed < 200; seed++) {
                int due = keptOf(n, n, seed, times, false);
                unlike += due == keptOf(n, seed, times) ? 0 : 1;
                Check.is("of folders, " + seed, x.drawn(seed, times), due);
            }
            Check.holds("some would be written", unlike > 5);
        }
        TwoTreesAlike y = goneOnOne(30);
        int taken = 0;
        for (int seed = 0; seed < 300; seed++) {
            int side = number(next(seed), 2);
            int what = number(next(next(next(seed))), 3);
            int name = number(next(next(next(next(seed)))), 50);
            if (side == 0 && what == 1) {
                boolean isFree = name < 10 || name >= 40;
                taken += isFree ? 0 : 1;
                Check.is("of thirty, " + seed, y.drawn(seed, 1), isFree ? 1 : 0);
            }
        }
        Check.holds("some names were taken", taken > 5);
    }

    private static void chanceIsBad() {
        int[][] all = {{0, 0}, {11, 0}, {-1, 0}, {MIN, 0}, {MAX, 0}, {1, -1}, {1, 2}, {1, MIN}, {1, MAX}, {11, 2}};
        for (int[] a : all) {
            for (int seed : new int[] {0, MIN, MAX}) {
                Probe.refuses("chance " + a[0] + " " + a[1], x -> x.chance(seed, a[0], a[1]), -2);
            }
        }
    }

    private static void chanceOfOneSeed() {
        TwoTreesAlike x = goneOnOne(2);
        int some = 0;
        for (int seed = -60; seed < 60; seed++) {
            int due = keptOf(2, seed, 8) > 0 ? 1 : 0;
            int otherwise = keptOf(2, seed, 7) > 0 ? 1 : 0;
            int more = keptOf(2, seed, 9) > 0 ? 1 : 0;
            some += due != otherwise || due != more ? 1 : 0;
            Check.is("above", x.chance(seed, 1, 0), due);
            Check.is("below", x.chance(seed, 1, 1), 1);
        }
        Check.holds("8 is neither 7 nor 9", some > 5);
    }

    /** "IN m seeds (1 .. 10), SEED and each 1 more (an int)". */
    private static void chanceWrapsAround() {
        TwoTreesAlike x = goneOnOne(2);
        for (int seed : new int[] {MAX, MAX - 1, MAX - 5, MAX - 8, MAX - 9, MAX - 10, MIN, -1, -5, -9, 0}) {
            for (int m = 1; m <= 10; m++) {
                int hits = 0;
                for (int i = 0; i < m; i++) {
                    int each = BigInteger.valueOf(seed).add(BigInteger.valueOf(i)).intValue();
                    hits += keptOf(2, each, 8) > 0 ? 1 : 0;
                }
                int divisor = BigInteger.valueOf(hits).gcd(BigInteger.valueOf(m)).intValue();
                Check.is("above, " + seed + " " + m, x.chance(seed, m, 0), hits / divisor);
                Check.is("below, " + seed + " " + m, x.chance(seed, m, 1), m / divisor);
            }
        }
    }

    /** "part 0 above, 1 below the line, in lowest terms": each count of hits of each m that some seed has. */
    private static void chanceInLowestTerms() {
        TwoTreesAlike x = goneOnOne(2);
        int[][] seen = new int[11][11];
        for (int seed = 0; seed < 4000; seed++) {
            int hits = 0;
            for (int m = 1; m <= 10; m++) {
                hits += keptOf(2, seed * 10 + m - 1, 8) > 0 ? 1 : 0;
                seen[m][hits]++;
                if (seen[m][hits] == 1) {
                    int divisor = BigInteger.valueOf(hits).gcd(BigInteger.valueOf(m)).intValue();
                    Check.is(hits + " of " + m + ", above", x.chance(seed * 10, m, 0), hits / divisor);
                    Check.is(hits + " of " + m + ", below", x.chance(seed * 10, m, 1), m / divisor);
                }
            }
        }
        int fractions = 0;
        for (int[] row : seen) {
            for (int n : row) {
                fractions += n > 0 ? 1 : 0;
            }
        }
        Check.holds("most fractions were seen: " + fractions, fractions > 50);
    }

    private static void thoughtsChangeNothing() {
        Probe.changesNothing("spared", Probe::busy, x -> x.spared(0, 0) + x.spared(1, 0), true);
        for (int seed : new int[] {MIN, -7, 0, 5, 99, MAX}) {
            Probe.changesNothing("drawn", Probe::busy, x -> x.drawn(seed, 20), true);
            Probe.changesNothing("drawn of thirty", Probe::full, x -> x.drawn(seed, 20), true);
            Probe.changesNothing("chance", Probe::busy, x -> x.chance(seed, 10, 0), true);
        }
        Check.is("spared here", Probe.busy().spared(0, 0), 2);
    }
}
