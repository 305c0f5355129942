import java.util.Random;

/**
 * Runs of drawn calls (always the same ones) on the program and on Model, all answers compared; at the end of a run all
 * that can be asked is asked. Model's sync() does the STEPS one by one, and tells one that can't be done.
 */
public final class OracleTest {
    private static final int RUNS = 700;

    // a change makes so many calls at most
    private static final int ROOM = 35;

    private final Random random;
    private final Pair pair;
    private final Model m;
    private final int wildness;
    private final int names;
    private final boolean hasPatterns;
    private final int folders;

    // clashes of kinds 0 to 4, ignored ones, ones that came on both sides, at the ends of runs
    private static final int[] seen = new int[7];

    private OracleTest(int run) {
        random = new Random(run);
        pair = new Pair("run " + run);
        m = pair.model;
        wildness = run % 4 == 0 ? 8 : 60;
        names = run % 5 == 0 ? 50 : 6;
        hasPatterns = run % 3 != 0;
        folders = 1 + run % 4;
    }

    public static void main(String[] args) {
        for (int run = 0; run < RUNS; run++) {
            new OracleTest(run).go();
        }
        for (int i = 0; i < seen.length; i++) {
            Check.holds("the runs have what they should try: " + i + " just " + seen[i], seen[i] > 10);
        }
        Check.end("OracleTest");
    }

    private void go() {
        while (pair.calls() < Pair.MOST_CALLS - ROOM) {
            if (random.nextInt(7) == 0) {
                ask();
            } else {
                change();
            }
        }
        askAll();
    }

    private void both(String call, int... args) {
        pair.call(call, args);
    }

    /** A number from 0 to below a bound, but now and then one that may be none such. */
    private int number(int below) {
        if (random.nextInt(wildness) == 0) {
            int[] odd = {-3, -2, -1, below, below + 1, 50, 1000, Integer.MAX_VALUE, Integer.MIN_VALUE};
            return odd[random.nextInt(odd.length)];
        }
        return random.nextInt(Math.max(1, below));
    }

    private int side() {
        return number(2);
    }

    private int tree() {
        return number(3);
    }

    private int thing() {
        return number(m.count(3));
    }

    private int folder() {
        return random.nextInt(3) == 0 ? -1 : thing();
    }

    private void change() {
        int side = side();
        int thing = thing();
        int folder = folder();
        int called = number(names);
        int v = number(random.nextBoolean() ? 3 : 1000);
        switch (random.nextInt(20)) {
            case 0, 1, 2, 3 -> {
                int content = random.nextInt(5) < folders ? -1 : v;
                both("make", side, folder, called, content);
            }
            case 4, 5, 6, 7 -> both("write", side, thing, v);
            case 8, 9, 10, 11, 12 -> both("move", side, thing, folder, called);
            case 13 -> both("remove", side, thing);
            case 14 -> {
                if (random.nextInt(3) == 0) {
                    both("sync");
                } else {
                    cross(thing, thing());
                }
            }
            case 15 -> pattern();
            case 16 -> {
                both("drop");
                if (hasPatterns && random.nextInt(3) == 0) {
                    leaveHome(thing);
                }
            }
            case 17 -> both("prefer", side);
            case 18 -> images();
            default -> sheets();
        }
    }

    /** Two go into one another, each on a side: a ring, if they are folders. */
    private void cross(int a, int b) {
        int called = number(names);
        both("move", 0, a, b, called);
        both("move", 1, b, a, called);
    }

    /** One that is ignored loses its folder in LAST, but stays on both sides: it has COME on both, when it no longer is. */
    private void leaveHome(int thing) {
        int home = m.told(2, thing, 1);
        if (home < 0 || m.told(2, home, 5) != 0 || m.count(4) == 6 || m.count(5) > 0) {
            return;
        }
        String text = m.told(2, home, 2) + "/" + m.told(2, thing, 2);
        for (int i = 0; i < text.length(); i++) {
            both("feed", 1, text.charAt(i), 0, 0, 0, 0);
        }
        both("pattern");
        for (int side = 0; side < 2; side++) {
            int called = number(names);
            both("move", side, thing, -1, called);
            both("remove", side, home);
        }
        both("sync");
        both("drop");
        for (int what = 0; what < 4; what++) {
            both("target", thing, what);
        }
    }

    private void images() {
        int which = random.nextInt(12);
        if (which < 2) {
            both("image");
        } else if (which == 2) {
            both("back");
        }
    }

    private void sheets() {
        int sheet = number(4);
        int other = number(4);
        int i = number(5);
        int j = number(5);
        int n = number(6);
        int v = random.nextInt(3) == 0 ? random.nextInt() : number(6);
        switch (random.nextInt(4)) {
            case 0 -> {
                int sort = number(3) - 1;
                int size = number(41);
                both("sheet", sheet, sort, size);
            }
            case 1 -> both("cell", sheet, i, v);
            case 2 -> both("copy", sheet, i, other, j, n);
            default -> {
                int side = tree();
                int size = number(31);
                both("film", sheet, side, size);
            }
        }
    }

    /** Some text, of which most is a PATTERN. */
    private void pattern() {
        if (!hasPatterns) {
            return;
        }
        StringBuilder text = new StringBuilder(random.nextInt(4) == 0 ? "!" : "");
        int parts = 1 + random.nextInt(random.nextInt(9) == 0 ? 9 : 3);
        for (int i = 0; i < parts; i++) {
            String called = "" + random.nextInt(names);
            String[] some = {called, called, called, called, i == 0 ? called : "*", i == 0 ? called : "**", "**", "0" + called, " 1", "3 ", "2\n"};
            text.append(i == 0 ? "" : "/").append(some[random.nextInt(some.length)]);
        }
        if (random.nextInt(5) == 0) {
            String odd = "!/*0 \n12a\u00ff\0";
            int at = random.nextInt(text.length() + 1);
            text.insert(at, odd.charAt(random.nextInt(odd.length())));
        }
        for (int i = 0; i < text.length() && pair.calls() < Pair.MOST_CALLS - ROOM + 9; i += 5) {
            int n = Math.min(5, text.length() - i);
            int[] b = new int[5];
            for (int k = 0; k < n; k++) {
                b[k] = text.charAt(i + k);
            }
            both("feed", n, b[0], b[1], b[2], b[3], b[4]);
        }
        if (random.nextInt(20) > 0) {
            both("pattern");
        }
    }

    private void ask() {
        int side = side();
        int tree = tree();
        int thing = thing();
        int i = number(12);
        int seed = random.nextInt();
        int sheet = number(4);
        switch (random.nextInt(14)) {
            case 0 -> both("told", tree, thing, number(10));
            case 1 -> both("find", tree, folder(), i);
            case 2 -> both("taken", thing, number(3));
            case 3 -> both("latest", number(3));
            case 4 -> both("matches", number(m.count(4)), tree, thing);
            case 5 -> both("target", thing, number(4));
            case 6 -> both("clash", i, number(2));
            case 7 -> both("step", side, i, number(5));
            case 8 -> both("would", number(4));
            case 9 -> both("spared", side, thing);
            case 10 -> both("drawn", seed, number(21));
            case 11 -> both("chance", seed, number(11), number(2));
            case 12 -> both("tells", sheet, tree, number(2));
            default -> both("count", number(7));
        }
    }

    /** All that can be asked; Pair takes other objects for it, as it is more than 512 calls. */
    private void askAll() {
        int things = m.count(3);
        for (int i = 0; i < m.would(0); i++) {
            seen[m.clash(i, 0)]++;
        }
        for (int thing = 0; thing < things; thing++) {
            seen[5] += m.told(0, thing, 8);
            seen[6] += m.told(0, thing, 6) == 1 && m.told(1, thing, 6) == 1 ? 1 : 0;
        }
        for (int what = 0; what < 10; what++) {
            for (int thing = 0; thing < things; thing++) {
                for (int side = 0; side < 3; side++) {
                    both("told", side, thing, what);
                }
            }
        }
        for (int thing = 0; thing < 30; thing++) {
            for (int what = 0; what < 4; what++) {
                both("target", thing, what);
            }
            both("spared", 0, thing);
            both("spared", 1, thing);
        }
        for (int i = 0; i <= m.would(0); i++) {
            both("clash", i, 0);
            both("clash", i, 1);
        }
        for (int side = 0; side < 2; side++) {
            for (int i = 0; i <= m.would(1 + side); i++) {
                for (int what = 0; what < 5; what++) {
                    both("step", side, i, what);
                }
            }
        }
        for (int what = 0; what < 7; what++) {
            both("count", what);
        }
        both("would", 3);
        both("sync");
        for (int what = 0; what < 4; what++) {
            both("would", what);
        }
    }
}
