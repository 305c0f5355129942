/** Promises 20 to 22: what is in thought alone. */
public final class ThoughtTest {
    public static void main(String[] args) {
        sparedTells();
        sparedOfKept();
        sparedRefuses();
        drawnIsAsDone();
        drawnOfNone();
        chanceCounts();
        Check.end("ThoughtTest");
    }

    private static void sparedTells() {
        TwoTreesAlike x = new TwoTreesAlike();
        x.make(0, -1, 1, 5);
        x.make(0, -1, 2, 5);
        x.sync();
        x.write(0, 0, 6);
        x.write(1, 0, 7);
        x.write(1, 1, 7);
        // the clash of contents, and of the name of the one that comes by it
        Check.is("both", x.spared(0, 0), 2);
        Check.is("likewise", x.spared(1, 0), 2);
        Check.is("no clash by it", x.spared(1, 1), 0);
        Check.is("nothing changed", x.told(0, 0, 3), 6);
        Check.is("clashes", x.would(0), 2);
    }

    private static void sparedOfKept() {
        TwoTreesAlike x = new TwoTreesAlike();
        x.make(0, -1, 1, -1);
        x.make(0, 0, 1, 5);
        x.sync();
        x.remove(1, 0);
        x.write(0, 1, 6);
        Check.is("two would not be kept", x.spared(0, 1), 2);
        x.move(0, 1, 0, 2);
        Check.is("moved, too", x.spared(0, 1), 0);
        Check.is("gone", x.spared(1, 1), -3);
    }

    private static void sparedRefuses() {
        TwoTreesAlike x = new TwoTreesAlike();
        x.make(0, -1, 1, 5);
        x.sync();
        Check.is("side", x.spared(2, 0), -2);
        Check.is("side -1", x.spared(-1, 0), -2);
        Check.is("thing", x.spared(0, 1), -2);
        Check.is("thing -1", x.spared(0, -1), -2);
        Check.is("not written", x.spared(0, 0), -3);
        x.write(0, 0, 6);
        Check.is("written", x.spared(0, 0), 0);
        Check.is("not there", x.spared(1, 0), -3);
        Check.pattern(x, "1");
        Check.is("ignored", x.spared(0, 0), -3);
    }

    private static TwoTreesAlike small() {
        TwoTreesAlike x = new TwoTreesAlike();
        x.make(0, -1, 0, -1);
        x.make(0, 0, 1, 5);
        x.make(0, -1, 2, 6);
        x.make(1, -1, 3, 6);
        x.sync();
        return x;
    }

    /** The same changes, done truly. */
    private static int done(TwoTreesAlike x, int seed, int n) {
        int z = seed;
        for (int i = 0; i < n; i++) {
            int[] numbers = new int[4];
            for (int k = 0; k < 4; k++) {
                z = z * 1103515245 + 12345;
                int of = k == 0 ? 2 : k == 1 ? Math.max(1, x.count(3)) : k == 2 ? 3 : 50;
                numbers[k] = (z >>> 9) % of;
            }
            if (numbers[2] == 0) {
                x.write(numbers[0], numbers[1], numbers[3]);
            } else if (numbers[2] == 1) {
                x.move(numbers[0], numbers[1], -1, numbers[3]);
            } else {
                x.remove(numbers[0], numbers[1]);
            }
        }
        return x.would(0);
    }

    private static void drawnIsAsDone() {
        int withClashes = 0;
        for (int seed = -60; seed < 60; seed++) {
            int n = Math.floorMod(seed, 21);
            TwoTreesAlike x = small();
            int got = x.drawn(seed * 7919, n);
            Check.is("clashes of seed " + seed, got, done(small(), seed * 7919, n));
            Check.is("in thought", x.would(3), 1);
            withClashes += got > 0 ? 1 : 0;
        }
        Check.holds("some had clashes, some none", withClashes > 10 && withClashes < 110);
        TwoTreesAlike x = small();
        Check.is("n 21", x.drawn(0, 21), -2);
        Check.is("n -1", x.drawn(0, -1), -2);
        Check.is("n 0", x.drawn(Integer.MAX_VALUE, 0), 0);
        x.write(0, 1, 7);
        x.write(1, 1, 8);
        Check.is("n 0 with clashes", x.drawn(Integer.MIN_VALUE, 0), 2);
    }

    private static void drawnOfNone() {
        TwoTreesAlike x = new TwoTreesAlike();
        Check.is("no things", x.drawn(77, 20), 0);
        Check.is("no things, above", x.chance(77, 7, 0), 0);
        Check.is("no things, below", x.chance(77, 7, 1), 1);
    }

    private static void chanceCounts() {
        TwoTreesAlike x = small();
        int reduced = 0;
        for (int seed = Integer.MAX_VALUE - 20; seed != Integer.MIN_VALUE + 20; seed++) {
            int m = 1 + Math.floorMod(seed, 10);
            int hits = 0;
            for (int i = 0; i < m; i++) {
                hits += x.drawn(seed + i, 8) > 0 ? 1 : 0;
            }
            int above = x.chance(seed, m, 0);
            int below = x.chance(seed, m, 1);
            Check.is("the same part", above * m, hits * below);
            reduced += below < m ? 1 : 0;
            for (int d = 2; d <= 10; d++) {
                Check.holds("lowest terms", above % d != 0 || below % d != 0);
            }
            x = small();
        }
        Check.holds("some were reduced", reduced > 0);
        Check.is("m 0", x.chance(0, 0, 0), -2);
        Check.is("m 11", x.chance(0, 11, 0), -2);
        Check.is("part 2", x.chance(0, 1, 2), -2);
        Check.is("part -1", x.chance(0, 1, -1), -2);
        TwoTreesAlike y = new TwoTreesAlike();
        for (int i = 0; i < 10; i++) {
            y.make(0, -1, i, 1);
            y.make(1, -1, i, 1);
        }
        // eight changes can't undo ten clashes
        Check.is("by all seeds, above", y.chance(3, 10, 0), 1);
        Check.is("by all seeds, below", y.chance(3, 10, 1), 1);
    }
}
