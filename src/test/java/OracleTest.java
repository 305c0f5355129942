import java.util.Random;

/**
 * Runs of drawn calls (always the same ones) on the program and on Model, all answers compared; every now and then
 * all that can be asked is asked. Model's sync() does the STEPS one by one, and tells one that can't be done.
 */
public final class OracleTest {
    private static final int RUNS = 700;
    private static final int CALLS = 512;

    private final Random random;
    private final String name;
    private final TwoTreesAlike x = new TwoTreesAlike();
    private final Model m = new Model();
    private final int wildness;
    private final int names;
    private final boolean hasPatterns;
    private final int folders;
    private int calls = 0;

    // clashes of kinds 0 to 4, ignored ones, ones that came on both sides, at the ends of runs
    private static final int[] seen = new int[7];

    private OracleTest(int run) {
        random = new Random(run);
        name = "run " + run;
        wildness = run % 4 == 0 ? 8 : 60;
        names = run % 5 == 0 ? 50 : 6;
        hasPatterns = run % 3 != 0;
        folders = 1 + run % 4;
    }

    public static void main(String[] args) {
        for (int run = 0; run < RUNS; run++) {
            new OracleTest(run).go();
        }
        for (int i = 0; i < seen.length; i++) {
            Check.holds("the runs have what they should try: " + i + " just " + seen[i], seen[i] > 10);
        }
        Check.end("OracleTest");
    }

    private void go() {
        while (calls < CALLS - 35) {
            if (random.nextInt(7) == 0) {
                ask();
            } else {
                change();
            }
        }
        askAll();
    }

    private void is(String call, int got, int due) {
        calls++;
        Check.is(name + ", call " + calls + ", " + call, got, due);
    }

    /** A number from 0 to below a bound, but now and then one that may be none such. */
    private int number(int below) {
        if (random.nextInt(wildness) == 0) {
            int[] odd = {-3, -2, -1, below, below + 1, 50, 1000, Integer.MAX_VALUE, Integer.MIN_VALUE};
            return odd[random.nextInt(odd.length)];
        }
        return random.nextInt(Math.max(1, below));
    }

    private int side() {
        return number(2);
    }

    private int tree() {
        return number(3);
    }

    private int thing() {
        return number(m.count(3));
    }

    private int folder() {
        return random.nextInt(3) == 0 ? -1 : thing();
    }

    private void change() {
        int side = side();
        int thing = thing();
        int folder = folder();
        int called = number(names);
        int v = number(random.nextBoolean() ? 3 : 1000);
        switch (random.nextInt(20)) {
            case 0, 1, 2, 3 -> {
                int content = random.nextInt(5) < folders ? -1 : v;
                is("make", x.make(side, folder, called, content), m.make(side, folder, called, content));
            }
            case 4, 5, 6, 7 -> is("write", x.write(side, thing, v), m.write(side, thing, v));
            case 8, 9, 10, 11, 12 -> is("move", x.move(side, thing, folder, called), m.move(side, thing, folder, called));
            case 13 -> is("remove", x.remove(side, thing), m.remove(side, thing));
            case 14 -> {
                if (random.nextInt(3) == 0) {
                    is("sync", x.sync(), m.sync());
                } else {
                    cross(thing, thing());
                }
            }
            case 15 -> pattern();
            case 16 -> {
                is("drop", x.drop(), m.drop());
                if (hasPatterns && random.nextInt(3) == 0) {
                    leaveHome(thing);
                }
            }
            case 17 -> is("prefer", x.prefer(side), m.prefer(side));
            case 18 -> images();
            default -> sheets();
        }
    }

    /** Two go into one another, each on a side: a ring, if they are folders. */
    private void cross(int a, int b) {
        int called = number(names);
        is("move a", x.move(0, a, b, called), m.move(0, a, b, called));
        is("move b", x.move(1, b, a, called), m.move(1, b, a, called));
    }

    /** One that is ignored loses its folder in LAST, but stays on both sides: it has COME on both, when it no longer is. */
    private void leaveHome(int thing) {
        int home = m.told(2, thing, 1);
        if (home < 0 || m.told(2, home, 5) != 0 || m.count(4) == 6 || m.count(5) > 0) {
            return;
        }
        String text = m.told(2, home, 2) + "/" + m.told(2, thing, 2);
        for (int i = 0; i < text.length(); i++) {
            is("feed", x.feed(1, text.charAt(i), 0, 0, 0, 0), m.feed(1, text.charAt(i), 0, 0, 0, 0));
        }
        is("pattern", x.pattern(), m.pattern());
        for (int side = 0; side < 2; side++) {
            int called = number(names);
            is("leave", x.move(side, thing, -1, called), m.move(side, thing, -1, called));
            is("remove", x.remove(side, home), m.remove(side, home));
        }
        is("sync", x.sync(), m.sync());
        is("drop", x.drop(), m.drop());
        for (int what = 0; what < 4; what++) {
            is("target", x.target(thing, what), m.target(thing, what));
        }
    }

    private void images() {
        int which = random.nextInt(12);
        if (which < 2) {
            is("image", x.image(), m.image());
        } else if (which == 2) {
            is("back", x.back(), m.back());
        }
    }

    private void sheets() {
        int sheet = number(4);
        int other = number(4);
        int i = number(5);
        int j = number(5);
        int n = number(6);
        int v = random.nextInt(3) == 0 ? random.nextInt() : number(6);
        switch (random.nextInt(4)) {
            case 0 -> {
                int sort = number(3) - 1;
                int size = number(41);
                is("sheet", x.sheet(sheet, sort, size), m.sheet(sheet, sort, size));
            }
            case 1 -> is("cell", x.cell(sheet, i, v), m.cell(sheet, i, v));
            case 2 -> is("copy", x.copy(sheet, i, other, j, n), m.copy(sheet, i, other, j, n));
            default -> {
                int side = tree();
                int size = number(31);
                is("film", x.film(sheet, side, size), m.film(sheet, side, size));
            }
        }
    }

    /** Some text, of which most is a PATTERN. */
    private void pattern() {
        if (!hasPatterns) {
            return;
        }
        StringBuilder text = new StringBuilder(random.nextInt(4) == 0 ? "!" : "");
        int parts = 1 + random.nextInt(random.nextInt(9) == 0 ? 9 : 3);
        for (int i = 0; i < parts; i++) {
            String called = "" + random.nextInt(names);
            String[] some = {called, called, called, called, i == 0 ? called : "*", i == 0 ? called : "**", "**", "0" + called, " 1", "3 ", "2\n"};
            text.append(i == 0 ? "" : "/").append(some[random.nextInt(some.length)]);
        }
        if (random.nextInt(5) == 0) {
            String odd = "!/*0 \n12a\u00ff\0";
            int at = random.nextInt(text.length() + 1);
            text.insert(at, odd.charAt(random.nextInt(odd.length())));
        }
        for (int i = 0; i < text.length() && calls < CALLS - 26; i += 5) {
            int n = Math.min(5, text.length() - i);
            int[] b = new int[5];
            for (int k = 0; k < n; k++) {
                b[k] = text.charAt(i + k);
            }
            is("feed", x.feed(n, b[0], b[1], b[2], b[3], b[4]), m.feed(n, b));
        }
        if (random.nextInt(20) > 0) {
            is("pattern", x.pattern(), m.pattern());
        }
    }

    private void ask() {
        int side = side();
        int tree = tree();
        int thing = thing();
        int i = number(12);
        int seed = random.nextInt();
        int sheet = number(4);
        switch (random.nextInt(14)) {
            case 0 -> {
                int what = number(10);
                is("told", x.told(tree, thing, what), m.told(tree, thing, what));
            }
            case 1 -> {
                int folder = folder();
                is("find", x.find(tree, folder, i), m.find(tree, folder, i));
            }
            case 2 -> {
                int kind = number(3);
                is("taken", x.taken(thing, kind), m.taken(thing, kind));
            }
            case 3 -> {
                int what = number(3);
                is("latest", x.latest(what), m.latest(what));
            }
            case 4 -> {
                int p = number(m.count(4));
                is("matches", x.matches(p, tree, thing), m.matches(p, tree, thing));
            }
            case 5 -> {
                int what = number(4);
                is("target", x.target(thing, what), m.target(thing, what));
            }
            case 6 -> {
                int what = number(2);
                is("clash", x.clash(i, what), m.clash(i, what));
            }
            case 7 -> {
                int what = number(5);
                is("step", x.step(side, i, what), m.step(side, i, what));
            }
            case 8 -> {
                int what = number(4);
                is("would", x.would(what), m.would(what));
            }
            case 9 -> is("spared", x.spared(side, thing), m.spared(side, thing));
            case 10 -> {
                int n = number(21);
                is("drawn", x.drawn(seed, n), m.drawn(seed, n));
            }
            case 11 -> {
                int seeds = number(11);
                int part = number(2);
                is("chance", x.chance(seed, seeds, part), m.chance(seed, seeds, part));
            }
            case 12 -> {
                int what = number(2);
                is("tells", x.tells(sheet, tree, what), m.tells(sheet, tree, what));
            }
            default -> {
                int what = number(7);
                is("count", x.count(what), m.count(what));
            }
        }
    }

    /** All that can be asked; what it answers does not depend on how many calls there were, so they are not counted. */
    private void askAll() {
        int things = m.count(3);
        for (int i = 0; i < m.would(0); i++) {
            seen[m.clash(i, 0)]++;
        }
        for (int thing = 0; thing < things; thing++) {
            seen[5] += m.told(0, thing, 8);
            seen[6] += m.told(0, thing, 6) == 1 && m.told(1, thing, 6) == 1 ? 1 : 0;
        }
        for (int what = 0; what < 10; what++) {
            for (int thing = 0; thing < things; thing++) {
                for (int side = 0; side < 3; side++) {
                    all("told " + side + " " + thing + " " + what, x.told(side, thing, what), m.told(side, thing, what));
                }
            }
        }
        for (int thing = 0; thing < 30; thing++) {
            for (int what = 0; what < 4; what++) {
                all("target " + thing + " " + what, x.target(thing, what), m.target(thing, what));
            }
            all("spared 0 " + thing, x.spared(0, thing), m.spared(0, thing));
            all("spared 1 " + thing, x.spared(1, thing), m.spared(1, thing));
        }
        for (int i = 0; i <= m.would(0); i++) {
            all("clash " + i + " 0", x.clash(i, 0), m.clash(i, 0));
            all("clash " + i + " 1", x.clash(i, 1), m.clash(i, 1));
        }
        for (int side = 0; side < 2; side++) {
            for (int i = 0; i <= m.would(1 + side); i++) {
                for (int what = 0; what < 5; what++) {
                    all("step " + side + " " + i + " " + what, x.step(side, i, what), m.step(side, i, what));
                }
            }
        }
        for (int what = 0; what < 7; what++) {
            all("count", x.count(what), m.count(what));
        }
        all("alike", x.would(3), m.would(3));
        all("sync", x.sync(), m.sync());
        for (int what = 0; what < 4; what++) {
            all("would behind sync " + what, x.would(what), m.would(what));
        }
    }

    private void all(String call, int got, int due) {
        Check.is(name + ", at the end, " + call, got, due);
    }
}
