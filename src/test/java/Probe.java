import java.util.ArrayList;
import java.util.List;
import java.util.function.Supplier;
import java.util.function.ToIntFunction;

/**
 * All that can be asked of an object, so that it can be seen whether a call changed anything. An object answers 512
 * calls only, so it is made anew for each of the SECTIONS of what is asked.
 */
final class Probe {
    private static final int TREES = 3;
    private static final int SECTIONS = 12;

    private final TwoTreesAlike x;
    private final List<Integer> row = new ArrayList<>();

    private Probe(TwoTreesAlike x) {
        this.x = x;
    }

    /** What an object answers that is made so, and on which a call is made. */
    static List<Integer> all(Supplier<TwoTreesAlike> made, ToIntFunction<TwoTreesAlike> call, boolean withLatest) {
        List<Integer> answers = new ArrayList<>();
        for (int section = 0; section < SECTIONS; section++) {
            Probe probe = new Probe(made.get());
            call.applyAsInt(probe.x);
            probe.ask(section, withLatest);
            answers.addAll(probe.row);
        }
        return answers;
    }

    private void ask(int section, boolean withLatest) {
        switch (section) {
            case 0, 1, 2 -> told(section);
            case 3 -> {
                counts(withLatest);
                plans();
            }
            case 4 -> target();
            case 5, 6, 7 -> sheet(section - 5);
            case 8 -> {
                row.add(size(x, 3));
                tape();
            }
            default -> {
                row.add(x.back());
                ask(section == 9 ? 0 : section == 10 ? 1 : 3, true);
            }
        }
    }

    private void counts(boolean withLatest) {
        for (int what = 0; what <= 6; what++) {
            row.add(x.count(what));
        }
        for (int what = 0; what <= 2 && withLatest; what++) {
            row.add(x.latest(what));
        }
        for (int what = 0; what <= 3; what++) {
            row.add(x.would(what));
        }
    }

    private void told(int side) {
        int things = x.count(3);
        int patterns = x.count(4);
        for (int thing = 0; thing < things; thing++) {
            for (int what = 0; what <= 9; what++) {
                row.add(x.told(side, thing, what));
            }
            for (int pattern = 0; pattern < patterns; pattern++) {
                row.add(x.matches(pattern, side, thing));
            }
        }
    }

    private void target() {
        for (int thing = 0; thing < 30; thing++) {
            for (int what = 0; what <= 3; what++) {
                row.add(x.target(thing, what));
            }
        }
    }

    private void plans() {
        int clashes = x.would(0);
        for (int i = 0; i < clashes; i++) {
            row.add(x.clash(i, 0));
            row.add(x.clash(i, 1));
        }
        for (int side = 0; side < 2; side++) {
            int steps = x.would(1 + side);
            for (int i = 0; i < steps; i++) {
                for (int what = 0; what <= 4; what++) {
                    row.add(x.step(side, i, what));
                }
            }
        }
    }

    /** How many numbers a SHEET has; -1: it is missing. */
    static int size(TwoTreesAlike x, int sheet) {
        for (int n = 40; n >= 0; n--) {
            if (x.copy(sheet, n, sheet, n, 0) == 0) {
                return n;
            }
        }
        return -1;
    }

    /** Of which sort a SHEET is; -1: it is missing. Another one becomes a row of one number of that sort. */
    static int sort(TwoTreesAlike x, int sheet, int other) {
        for (int sort = 0; sort <= 1; sort++) {
            x.sheet(other, sort, 1);
            if (x.copy(sheet, 0, other, 0, 0) == 0) {
                return sort;
            }
        }
        return -1;
    }

    /** Of a SHEET's items it is told where the CONTENT of THING 0 is just so. SHEET 3 is used for that. */
    private void sheet(int sheet) {
        for (int side = 0; side < TREES; side++) {
            row.add(x.tells(sheet, side, 0));
            row.add(x.tells(sheet, side, 1));
        }
        int size = size(x, sheet);
        row.add(size);
        row.add(sort(x, sheet, 3));
        for (int i = 0; i < size; i++) {
            row.add(x.copy(sheet, i, 3, 0, 1));
            row.add(x.tells(3, 0, 1));
        }
    }

    private void tape() {
        if (x.count(4) == 6) {
            x.drop();
        }
        int pattern = x.pattern();
        row.add(pattern);
        int things = x.count(3);
        for (int thing = 0; thing < things; thing++) {
            row.add(x.matches(pattern, 0, thing));
        }
    }

    /**
     * An object that has something of all. THINGS: 0 a FILE of 7, 8, 9 on SIDES 0, 1, in LAST; FOLDERS 1, in it 2; in 2
     * the FILE 3, on SIDE 1 alone; in 1 the FILE 4, on SIDE 0 alone; in 2 the FILE 5, come on SIDE 0; the FOLDER 6, come
     * on SIDE 1 in THE ROOT. NAMES are 10 more than numbers. THE IMAGE is another state. SHEET 0 is of 40 shorts, 1 of 30
     * ints, 2 of none, 3 is missing. PATTERNS ignore none.
     */
    static TwoTreesAlike busy() {
        TwoTreesAlike x = new TwoTreesAlike();
        x.make(0, -1, 10, 9);
        x.make(0, -1, 11, -1);
        x.make(0, 1, 12, -1);
        x.make(0, 2, 13, 5);
        x.make(0, 1, 14, 6);
        x.sync();
        Check.pattern(x, "10/9");
        x.prefer(1);
        x.write(1, 1, 0);
        x.image();
        x.prefer(0);
        x.write(0, 0, 7);
        x.write(1, 0, 8);
        x.remove(0, 3);
        x.remove(1, 4);
        x.make(0, 2, 15, 4);
        x.make(1, -1, 16, -1);
        Check.pattern(x, "!**/17");
        Check.feed(x, "11/*");
        x.sheet(0, 0, 40);
        for (int i = 0; i < 40; i++) {
            x.cell(0, i, 7 + i % 3);
        }
        x.film(1, 0, 30);
        x.sheet(2, 1, 0);
        x.move(0, 1, 2, 17);
        return x;
    }

    /** Likewise, with 23 more FILES on SIDE 0 in FOLDER 1: there is no room for more THINGS. */
    static TwoTreesAlike full() {
        TwoTreesAlike x = busy();
        for (int thing = 7; thing < 30; thing++) {
            x.make(0, 1, 10 + thing, thing);
        }
        return x;
    }

    /** A call that is refused: what it answers, and that it changed nothing. */
    static void refuses(String call, ToIntFunction<TwoTreesAlike> how, int due) {
        refuses(call, Probe::busy, how, due, true);
    }

    /** Likewise of make(), write(), move(), remove(), by which what latest() tells is another. */
    static void refusesChange(String call, ToIntFunction<TwoTreesAlike> how, int due) {
        refuses(call, Probe::busy, how, due, false);
    }

    /** Likewise of one that has thirty THINGS. */
    static void refusesFull(String call, ToIntFunction<TwoTreesAlike> how, int due) {
        refuses(call, Probe::full, how, due, false);
    }

    static void refuses(String call, Supplier<TwoTreesAlike> made, ToIntFunction<TwoTreesAlike> how, int due,
            boolean withLatest) {
        TwoTreesAlike x = made.get();
        Check.is(call, how.applyAsInt(x), due);
        if (!withLatest) {
            Check.is(call + ": what latest() tells", x.latest(0), due);
        }
        changesNothing(call, made, how, withLatest);
    }

    static void changesNothing(String call, Supplier<TwoTreesAlike> made, ToIntFunction<TwoTreesAlike> how,
            boolean withLatest) {
        Check.holds(call + ": something is changed", all(made, how, withLatest).equals(all(made, x -> 0, withLatest)));
    }
}
