/** Promises 14 to 19 at their edges: PREFER, PLANS, SYNCED, LAST, ALIKE. TARGET's rules are in TargetEdgesTest. */
public final class PlanEdgesTest {
    private static final int MIN = Integer.MIN_VALUE;
    private static final int MAX = Integer.MAX_VALUE;
    private static final int ASIDE = 0, MAKE = 1, PLACE = 2, WRITE = 3, REMOVE = 4;

    public static void main(String[] args) {
        preferIsBad();
        preferTellsAndStays();
        targetIsBad();
        clashIsBad();
        stepIsBad();
        wouldIsBad();
        askingChangesNothing();
        for (int side = 0; side < 2; side++) {
            asideByNumbers(side);
            makeAndPlaceByDepth(side);
            onlyTheFirstMovesAside(side);
            writeByNumbers(side);
            removeDownward(side);
            ignoredOnesHaveNoSteps(side);
            stepsOfOneThatIsMovedAndWritten(side);
            unlikeInOneWay(side);
            unlikeButIgnored(side);
            ignoredStayOnEachSide(side);
            ignoredStayInLast(side);
            ignoredGoOutOfLast(side);
        }
        thirtyAside();
        thirtyMade();
        syncedIsAlike();
        alikeIsNotAsInLast();
        newOnesComeToBe();
        allIgnoredGoOutOfLast(true);
        allIgnoredGoOutOfLast(false);
        Check.end("PlanEdgesTest");
    }

    private static void preferIsBad() {
        for (int side : new int[] {-1, 2, MIN, MAX}) {
            Probe.refuses("prefer " + side, x -> x.prefer(side), -2);
        }
    }

    private static void preferTellsAndStays() {
        TwoTreesAlike x = Probe.busy();
        Check.is("it is 0", x.prefer(0), 0);
        Check.is("it was 0", x.prefer(1), 0);
        Check.is("it is 1", x.count(6), 1);
        Check.is("the first has it", x.target(0, 2), 8);
        Check.is("the new one has the other's", x.target(7, 2), 7);
        x.sync();
        Check.is("it stays", x.prefer(1), 1);
        x.prefer(-1);
        Check.is("by a refusal, too", x.prefer(0), 1);
    }

    private static void targetIsBad() {
        int[][] all = {{-1, 0}, {30, 0}, {31, 0}, {MIN, 0}, {MAX, 0}, {0, -1}, {0, 4}, {29, 4}, {0, MIN}, {0, MAX}};
        for (int[] a : all) {
            Probe.refuses("target " + a[0] + " " + a[1], x -> x.target(a[0], a[1]), -2);
        }
        TwoTreesAlike x = Probe.busy();
        for (int what = 0; what <= 3; what++) {
            Check.is("one that comes", x.target(7, what), what == 0 ? -1 : what == 1 ? 0 : what == 2 ? 8 : 0);
            Check.is("none", x.target(8, what), -1);
            Check.is("none of 29", x.target(29, what), -1);
            Check.is("gone", x.target(3, what), -1);
        }
        Check.is("in the root", x.target(1, 0), -1);
        Check.is("0 deep", x.target(1, 3), 0);
        Check.is("1 deep", x.target(2, 3), 1);
        Check.is("2 deep", x.target(5, 3), 2);
    }

    private static void clashIsBad() {
        for (int what : new int[] {-1, 2, MIN, MAX}) {
            Probe.refuses("clash what " + what, x -> x.clash(0, what), -2);
            Probe.refuses("ahead of -12: what " + what, x -> x.clash(99, what), -2);
        }
        // CONTENT of 0, and the NAME of 7 by it
        for (int i : new int[] {-1, 2, 3, MIN, MAX}) {
            Probe.refuses("clash " + i, x -> x.clash(i, 0), -12);
            Probe.refuses("clash " + i + ", thing", x -> x.clash(i, 1), -12);
        }
        TwoTreesAlike x = Probe.busy();
        Check.is("the first", x.clash(0, 0) * 100 + x.clash(0, 1), 200);
        Check.is("the last", x.clash(1, 0) * 100 + x.clash(1, 1), 307);
    }

    private static void stepIsBad() {
        int[][] all = {
            {-1, 0, 0}, {2, 0, 0}, {MIN, 0, 0}, {MAX, 0, 0}, {0, 0, -1}, {0, 0, 5}, {0, 0, MIN}, {0, 0, MAX},
            // ahead of -12
            {2, 99, 0}, {0, 99, 5}, {1, -1, -1},
        };
        for (int[] a : all) {
            Probe.refuses("step " + a[0] + " " + a[1] + " " + a[2], x -> x.step(a[0], a[1], a[2]), -2);
        }
        // SIDE 0: aside 4, make 6, 7, remove 4; SIDE 1: aside 3, make 7, 5, write 0, remove 3
        for (int what = 0; what <= 4; what++) {
            int asked = what;
            for (int i : new int[] {-1, MIN, MAX}) {
                Probe.refuses("step " + i, x -> x.step(0, i, asked), -12);
            }
            Probe.refuses("behind the last of 0", x -> x.step(0, 4, asked), -12);
            Probe.refuses("behind the last of 1", x -> x.step(1, 5, asked), -12);
        }
        TwoTreesAlike x = Probe.busy();
        Check.is("the last of 0", x.step(0, 3, 1), 4);
        Check.is("the last of 1", x.step(1, 4, 1), 3);
        Check.is("the one before", x.step(1, 3, 0), WRITE);
    }

    private static void wouldIsBad() {
        for (int what : new int[] {-1, 4, MIN, MAX}) {
            Probe.refuses("would " + what, x -> x.would(what), -2);
        }
        TwoTreesAlike x = Probe.busy();
        Check.is("clashes", x.would(0), 2);
        Check.is("steps of 0", x.would(1), 4);
        Check.is("steps of 1", x.would(2), 5);
        Check.is("not alike", x.would(3), 0);
        Check.is("all of them", x.sync(), 9);
    }

    private static void askingChangesNothing() {
        Probe.changesNothing("target", Probe::busy, x -> x.target(7, 2), true);
        Probe.changesNothing("clash", Probe::busy, x -> x.clash(0, 0), true);
        Probe.changesNothing("step", Probe::busy, x -> x.step(1, 0, 0), true);
        Probe.changesNothing("would", Probe::busy, x -> x.would(0) + x.would(1) + x.would(2) + x.would(3), true);
        Probe.changesNothing("told", Probe::busy, x -> x.told(0, 0, 6) + x.told(0, 0, 8), true);
        Probe.changesNothing("find, matches, taken", Probe::busy, x -> x.find(0, 1, 12) + x.matches(0, 0, 0)
                + x.taken(0, 0), true);
        Probe.changesNothing("would of thirty", Probe::full, x -> x.would(0) + x.would(1), true);
        Probe.changesNothing("prefer there and back", Probe::busy, x -> x.prefer(1) + x.would(0) + x.prefer(0), true);
    }

    /** FOLDERS 0 (in it 1, in it 2), 3 and FILES 4, 5 in THE ROOT, FILE 6 in 2; NAMES are 10 more than numbers. */
    private static TwoTreesAlike base() {
        TwoTreesAlike x = new TwoTreesAlike();
        x.make(0, -1, 10, -1);
        x.make(0, 0, 11, -1);
        x.make(0, 1, 12, -1);
        x.make(0, -1, 13, -1);
        x.make(0, -1, 14, 4);
        x.make(0, -1, 15, 5);
        x.make(0, 2, 16, 6);
        x.sync();
        return x;
    }

    /** Each step is KIND, THING, FOLDER, NAME, CONTENT. */
    private static void planIs(String what, TwoTreesAlike x, int side, int[]... due) {
        Check.is(what + ": steps of side " + side, x.would(1 + side), due.length);
        for (int i = 0; i < due.length; i++) {
            for (int k = 0; k <= 4; k++) {
                Check.is(what + ": step " + i + " of side " + side + ", what " + k, x.step(side, i, k), due[i][k]);
            }
        }
        Check.is(what + ": no more", x.step(side, due.length, 0), -12);
    }

    private static int[] aside(int thing) {
        return new int[] {ASIDE, thing, -1, 100 + thing, -1};
    }

    private static int[] make(int thing, int folder, int name, int content) {
        return new int[] {MAKE, thing, folder, name, content};
    }

    private static int[] place(int thing, int folder, int name) {
        return new int[] {PLACE, thing, folder, name, -1};
    }

    private static int[] write(int thing, int content) {
        return new int[] {WRITE, thing, -1, -1, content};
    }

    private static int[] remove(int thing) {
        return new int[] {REMOVE, thing, -1, -1, -1};
    }

    /** "0 ASIDE: each THING there, by numbers, whose FOLDER or NAME isn't TARGET's, or that isn't in TARGET". */
    private static void asideByNumbers(int side) {
        int other = 1 - side;
        TwoTreesAlike x = base();
        planIs("nothing", x, side);
        x.move(other, 5, -1, 30);
        planIs("another name", x, side, aside(5), place(5, -1, 30));
        x.move(other, 4, 0, 14);
        planIs("another folder", x, side, aside(4), aside(5), place(5, -1, 30), place(4, 0, 14));
        x.remove(other, 3);
        planIs("not in target", x, side, aside(3), aside(4), aside(5), place(5, -1, 30), place(4, 0, 14), remove(3));
        planIs("nothing to do there", x, other);
        x.move(side, 5, -1, 30);
        x.move(side, 4, 0, 14);
        planIs("moved alike", x, side, aside(3), remove(3));
        x.remove(side, 3);
        planIs("removed on both", x, side);
        Check.is("and all is in last", x.sync(), 0);
    }

    /** "MAKE: THINGS of TARGET that aren't there; PLACE: those that are ASIDE; both by how deep, then by numbers, mixed". */
    private static void makeAndPlaceByDepth(int side) {
        int other = 1 - side;
        TwoTreesAlike x = base();
        x.make(other, 3, 20, 7);
        x.make(other, -1, 21, -1);
        x.make(other, 8, 22, -1);
        x.make(other, 9, 23, 0);
        x.move(other, 4, 9, 24);
        x.move(other, 5, 0, 25);
        x.move(other, 2, 9, 26);
        x.move(other, 3, -1, 27);
        planIs("mixed", x, side, aside(2), aside(3), aside(4), aside(5), place(3, -1, 27), make(8, -1, 21, 0),
                place(5, 0, 25), make(7, 3, 20, 7), make(9, 8, 22, 0), place(2, 9, 26), place(4, 9, 24), make(10, 9, 23, 0));
        Check.is("all of them", x.sync(), 12);
        Check.is("alike", x.would(3), 1);
    }

    /** One that stands in a FOLDER which is ASIDE has its FOLDER and NAME still. */
    private static void onlyTheFirstMovesAside(int side) {
        TwoTreesAlike x = base();
        x.move(1 - side, 0, 3, 10);
        planIs("a folder with inner ones", x, side, aside(0), place(0, 3, 10));
        x.move(1 - side, 3, -1, 29);
        planIs("both", x, side, aside(0), aside(3), place(3, -1, 29), place(0, 3, 10));
        x.sync();
        Check.is("deep", x.told(side, 6, 5), 4);
    }

    /** "WRITE: THINGS of TARGET that were there, by numbers, whose CONTENT isn't TARGET's". */
    private static void writeByNumbers(int side) {
        int other = 1 - side;
        TwoTreesAlike x = base();
        x.write(other, 6, 0);
        x.write(other, 5, 999);
        x.write(other, 4, 4);
        planIs("written", x, side, write(5, 999), write(6, 0));
        x.write(other, 4, 7);
        x.remove(side, 5);
        planIs("one that was not there is made", x, side, make(5, -1, 15, 999), write(4, 7), write(6, 0));
        x.write(side, 6, 0);
        planIs("written alike", x, side, make(5, -1, 15, 999), write(4, 7));
        planIs("none there", x, other);
    }

    /** "REMOVE: those that are ASIDE and not in TARGET, by numbers downward". */
    private static void removeDownward(int side) {
        int other = 1 - side;
        TwoTreesAlike x = base();
        x.remove(other, 0);
        x.remove(other, 4);
        x.move(other, 5, -1, 29);
        planIs("downward", x, side, aside(0), aside(1), aside(2), aside(4), aside(5), aside(6), place(5, -1, 29),
                remove(6), remove(4), remove(2), remove(1), remove(0));
        Check.is("all of them", x.sync(), 12);
        Check.is("two are left", x.count(side), 2);
        Check.is("in last, too", x.count(2), 2);
    }

    private static void ignoredOnesHaveNoSteps(int side) {
        int other = 1 - side;
        TwoTreesAlike x = base();
        x.move(other, 4, -1, 30);
        x.write(other, 5, 8);
        x.remove(other, 6);
        x.make(other, 3, 20, 7);
        for (String pattern : new String[] {"14", "15", "10/11/12/16", "13/20"}) {
            Check.pattern(x, pattern);
        }
        planIs("ignored", x, side);
        planIs("ignored there", x, other);
        x.move(other, 0, 3, 10);
        planIs("the folder of one", x, side, aside(0), place(0, 3, 10));
        Check.is("alone", x.sync(), 2);
        Check.is("its inner one goes along", x.told(side, 6, 5), 4);
    }

    private static void stepsOfOneThatIsMovedAndWritten(int side) {
        TwoTreesAlike x = base();
        x.move(1 - side, 6, -1, 0);
        x.write(1 - side, 6, 1);
        x.remove(1 - side, 3);
        planIs("moved and written", x, side, aside(3), aside(6), place(6, -1, 0), write(6, 1), remove(3));
    }

    private static TwoTreesAlike thirty() {
        TwoTreesAlike x = new TwoTreesAlike();
        for (int i = 0; i < 30; i++) {
            x.make(0, -1, i, i);
        }
        x.sync();
        return x;
    }

    private static void thirtyAside() {
        TwoTreesAlike x = thirty();
        TwoTreesAlike y = thirty();
        int[][] placed = new int[60][];
        int[][] removed = new int[60][];
        for (int i = 0; i < 30; i++) {
            x.move(0, 29 - i, -1, 30 - i);
            y.remove(0, i);
            placed[i] = aside(i);
            removed[i] = aside(i);
            placed[30 + i] = place(i, -1, i + 1);
            removed[59 - i] = remove(i);
        }
        planIs("thirty are placed", x, 1, placed);
        planIs("thirty are removed", y, 1, removed);
        Check.is("sixty", y.sync(), 60);
        Check.is("none is left", y.count(1), 0);
        Check.is("none in last", y.count(2), 0);
    }

    private static void thirtyMade() {
        TwoTreesAlike x = new TwoTreesAlike();
        int[][] due = new int[30][];
        for (int i = 0; i < 30; i++) {
            x.make(1, i - 1, 7, -1);
            due[i] = make(i, i - 1, 7, 0);
        }
        planIs("each in the one before", x, 0, due);
        planIs("none there", x, 1);
        TwoTreesAlike y = new TwoTreesAlike();
        for (int i = 0; i < 30; i++) {
            y.make(1, -1, i, -1);
        }
        for (int i = 0; i < 29; i++) {
            y.move(1, i, i + 1, 7);
            due[29 - i] = make(i, i + 1, 7, 0);
        }
        due[0] = make(29, -1, 29, 0);
        planIs("each in the one behind", y, 0, due);
        Check.is("thirty", y.sync(), 30);
        Check.is("alike", y.would(3), 1);
    }

    private static void syncedIsAlike() {
        TwoTreesAlike x = Probe.busy();
        x.sync();
        for (int thing = 0; thing < x.count(3); thing++) {
            for (int what = 0; what <= 5; what++) {
                int due = x.told(0, thing, what);
                Check.is("on both sides", x.told(1, thing, what), due);
                Check.is("in last", x.told(2, thing, what), due);
            }
            Check.is("unchanged", x.told(0, thing, 6) + x.told(1, thing, 6), 0);
        }
        for (int what = 0; what <= 2; what++) {
            Check.is("nothing left", x.would(what), 0);
        }
        Check.is("alike", x.would(3), 1);
        Check.is("again", x.sync(), 0);
        Check.is("the tape stays", x.count(5), 4);
        Check.is("patterns stay", x.count(4), 2);
        Check.is("what latest() tells stays", x.latest(0), -7);
    }

    /** "ALIKE are both SIDES, if all that isn't IGNORED at all is the same on both." */
    private static void unlikeInOneWay(int side) {
        TwoTreesAlike x = base();
        Check.is("alike", x.would(3), 1);
        x.move(side, 4, -1, 30);
        Check.is("a name", x.would(3), 0);
        x.move(side, 4, 0, 14);
        Check.is("a folder", x.would(3), 0);
        x.move(side, 4, -1, 14);
        Check.is("as it was", x.would(3), 1);
        x.write(side, 4, 0);
        Check.is("a content", x.would(3), 0);
        x.write(side, 4, 4);
        Check.is("as it was again", x.would(3), 1);
        x.make(side, 2, 0, -1);
        Check.is("one that came", x.would(3), 0);
        x.remove(side, 7);
        Check.is("it went", x.would(3), 1);
        x.remove(side, 6);
        Check.is("one that is gone", x.would(3), 0);
        x.remove(1 - side, 6);
        Check.is("on both", x.would(3), 1);
    }

    private static void unlikeButIgnored(int side) {
        TwoTreesAlike x = base();
        x.make(side, 3, 20, 1);
        x.write(side, 4, 0);
        x.move(side, 5, -1, 30);
        x.remove(side, 6);
        Check.pattern(x, "13/20");
        Check.pattern(x, "14");
        Check.pattern(x, "30");
        Check.is("one is not ignored", x.would(3), 0);
        Check.pattern(x, "**/16");
        Check.is("all are ignored", x.would(3), 1);
        Check.is("nothing to do", x.sync(), 0);
        Check.is("as it was here", x.told(side, 5, 2), 30);
        Check.is("as it was there", x.told(1 - side, 5, 2), 15);
        x.drop();
        Check.is("not ignored any longer", x.would(3), 0);
    }

    private static void alikeIsNotAsInLast() {
        TwoTreesAlike x = base();
        for (int side = 0; side < 2; side++) {
            x.move(side, 4, 0, 30);
            x.write(side, 5, 9);
            x.remove(side, 6);
        }
        Check.is("alike", x.would(3), 1);
        Check.is("no clash", x.would(0), 0);
        Check.is("last is otherwise", x.told(2, 4, 2), 14);
        Check.is("nothing to do", x.sync(), 0);
        Check.is("last's place", x.told(2, 4, 1), 0);
        Check.is("last's name", x.told(2, 4, 2), 30);
        Check.is("last's content", x.told(2, 5, 3), 9);
        Check.is("not in last", x.told(2, 6, 0), 0);
    }

    private static void newOnesComeToBe() {
        TwoTreesAlike x = base();
        x.write(0, 4, 1);
        x.write(1, 4, 2);
        x.write(0, 6, 3);
        x.write(1, 6, 2);
        planIs("the other's is made there too", x, 0, make(7, -1, 0, 2), make(8, 2, 0, 2));
        planIs("the first's is written", x, 1, make(7, -1, 0, 2), make(8, 2, 0, 2), write(4, 1), write(6, 3));
        Check.is("7 is none", x.told(0, 7, 0), -2);
        Check.is("6 steps", x.sync(), 6);
        Check.is("nine things", x.count(3), 9);
        for (int side = 0; side < 3; side++) {
            Check.is("it is there", x.told(side, 7, 3), 2);
            Check.is("in its folder", x.told(side, 8, 1), 2);
            Check.is("a file", x.told(side, 8, 9), 0);
        }
        Check.is("the next number", x.make(0, -1, 49, 0), 9);
    }

    private static void ignoredStayOnEachSide(int side) {
        TwoTreesAlike x = base();
        x.write(side, 4, 44);
        x.move(1 - side, 4, 3, 14);
        x.remove(side, 5);
        x.write(1 - side, 5, 55);
        Check.pattern(x, "**/14");
        Check.pattern(x, "15");
        Check.is("nothing to do", x.sync(), 0);
        int[][] due = {{-1, 14, 44}, {3, 14, 4}, {-1, 14, 4}};
        for (int k = 0; k < 3; k++) {
            int tree = k == 0 ? side : k == 1 ? 1 - side : 2;
            for (int what = 1; what <= 3; what++) {
                Check.is("as it was", x.told(tree, 4, what), due[k][what - 1]);
            }
        }
        Check.is("not there", x.told(side, 5, 0), 0);
        Check.is("there", x.told(1 - side, 5, 3), 55);
        Check.is("in last", x.told(2, 5, 3), 5);
    }

    /** "what is IGNORED at all stays in LAST as it was, if its FOLDER (or THE ROOT) is there still". */
    private static void ignoredStayInLast(int side) {
        TwoTreesAlike x = base();
        Check.pattern(x, "10/11");
        x.move(side, 0, 3, 30);
        x.remove(0, 1);
        x.remove(1, 1);
        Check.is("its folder moves there", x.sync(), 2);
        Check.is("in last it stays", x.told(2, 1, 1), 0);
        Check.is("under its name", x.told(2, 1, 2), 11);
        Check.is("with its inner ones", x.told(2, 6, 0), 1);
        Check.is("deeper now", x.told(2, 6, 5), 4);
        Check.is("none is there", x.told(side, 6, 0), 0);
        Check.is("not ignored there now, but gone", x.told(side, 1, 6), 2);
        Check.is("so it goes", x.sync(), 0);
        Check.is("out of last", x.told(2, 1, 0), 0);
        TwoTreesAlike y = base();
        Check.pattern(y, "14");
        y.remove(0, 4);
        y.remove(1, 4);
        y.sync();
        Check.is("the root is there", y.told(2, 4, 3), 4);
    }

    private static void ignoredGoOutOfLast(int side) {
        TwoTreesAlike x = base();
        // FOLDER 2 and FILE 6 are ignored; 6 stands elsewhere on one SIDE, 2 on the other; 0 and 1 go
        Check.pattern(x, "10/11/12");
        x.move(side, 6, -1, 16);
        x.move(1 - side, 2, 3, 12);
        x.remove(side, 0);
        x.remove(1 - side, 0);
        x.sync();
        Check.is("its folder is gone", x.told(2, 2, 0), 0);
        Check.is("and then that one's", x.told(2, 6, 0), 0);
        Check.is("here it is", x.told(side, 6, 1), -1);
        Check.is("there it is in the other", x.told(1 - side, 6, 1), 2);
        Check.is("which is", x.told(1 - side, 2, 1), 3);
        Check.is("three are in last", x.count(2), 3);
        Check.is("come then", x.told(side, 6, 6), 1);
        Check.is("come there", x.told(1 - side, 2, 6), 1);
    }

    /** Thirty FOLDERS, each in the next one (or in the one before): with the outermost all go out of LAST, one by one. */
    private static void allIgnoredGoOutOfLast(boolean upward) {
        TwoTreesAlike x = new TwoTreesAlike();
        for (int i = 0; i < 30; i++) {
            x.make(0, -1, 10 + i, -1);
        }
        for (int i = 0; i < 29; i++) {
            x.move(0, upward ? i : i + 1, upward ? i + 1 : i, 9);
        }
        x.sync();
        int outermost = upward ? 29 : 0;
        Check.is("the innermost", x.told(2, 29 - outermost, 5), 29);
        Check.pattern(x, (10 + outermost) + "/9");
        Check.is("the outermost is not ignored", x.told(2, outermost, 8), 0);
        Check.is("the innermost is", x.told(2, 29 - outermost, 8), 1);
        x.remove(0, outermost);
        Check.is("kept by ignored ones", x.clash(0, 1), outermost);
        x.remove(1, outermost);
        Check.is("none is there", x.would(1) + x.would(2) + x.would(0), 0);
        Check.is("all are in last", x.count(2), 30);
        Check.is("no steps", x.sync(), 0);
        Check.is("none is in last", x.count(2), 0);
        Check.is("nor the innermost", x.told(2, 29 - outermost, 0), 0);
    }
}
