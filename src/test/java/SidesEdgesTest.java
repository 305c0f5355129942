/** Promises 1 to 9 at their edges: what is the most, the least, one more, one less, and which refusal comes first. */
public final class SidesEdgesTest {
    private static final int MIN = Integer.MIN_VALUE;
    private static final int MAX = Integer.MAX_VALUE;

    public static void main(String[] args) {
        allIsEmpty();
        objectsShareNothing();
        thirtyThingsEver();
        thirtyStandInOneRow();
        namesAreLikeInNoFolder();
        makeIsBad();
        makeRefusesInOrder();
        makeTakesTheEdges();
        writeIsBad();
        writeTakesTheEdges();
        moveIsBad();
        moveRefusesInOrder();
        moveTakesTheEdges();
        moveTakesInnerOnesAlong();
        removeRefuses();
        removeTakesAll();
        toldIsBad();
        toldOfOneThatIsNotThere();
        toldOfChanges();
        findIsBad();
        findTakesTheEdges();
        takenRefuses();
        latestIsBad();
        latestOfEachRefusal();
        latestOfBothRefusals();
        latestOfTheLongestRing();
        Check.end("SidesEdgesTest");
    }

    /** "All is empty." */
    private static void allIsEmpty() {
        TwoTreesAlike x = new TwoTreesAlike();
        for (int thing = 0; thing < 30; thing++) {
            for (int what = 0; what <= 3; what++) {
                Check.is("target", x.target(thing, what), -1);
            }
        }
        for (int side = 0; side < 3; side++) {
            Check.is("no thing is told of", x.told(side, 0, 9), -2);
            Check.is("none is found", x.find(side, -1, -1), -1);
            Check.is("nor under 0", x.find(side, -1, 0), -1);
        }
        for (int sheet = 0; sheet < 4; sheet++) {
            Check.is("missing", Probe.size(x, sheet), -1);
            Check.is("told by none", x.tells(sheet, 0, 0), -11);
        }
        Check.is("no clash", x.clash(0, 0), -12);
        Check.is("no step of side 0", x.step(0, 0, 0), -12);
        Check.is("no step of side 1", x.step(1, 0, 0), -12);
        Check.is("no pattern", x.matches(0, 0, 0), -2);
        Check.is("none to drop", x.drop(), -3);
        Check.is("the first is 0", x.prefer(0), 0);
        Check.is("thing 0 is none", x.taken(0, 0), -2);
        Check.is("drawn", x.drawn(1, 20), 0);
        Check.is("an image of nothing", x.image(), 0);
        Check.is("back to nothing", x.back(), 0);
        Check.is("nothing on the tape", x.pattern(), -100);
    }

    private static void objectsShareNothing() {
        Check.is("the first has things", Probe.busy().count(3), 7);
        Probe.changesNothing("another object", Probe::busy, x -> {
            allIsEmpty();
            return Probe.full().sync();
        }, true);
    }

    /** "THINGS (30 at most ever, numbered from 0 as they come to be)". */
    private static void thirtyThingsEver() {
        TwoTreesAlike x = new TwoTreesAlike();
        for (int i = 0; i < 28; i++) {
            Check.is("whatever the side", x.make(i % 2, -1, i, i % 3 - 1), i);
        }
        x.image();
        for (int i = 0; i < 28; i += 2) {
            x.remove(0, i);
        }
        Check.is("numbers are not had again", x.make(0, -1, 0, 0), 28);
        Check.is("29", x.make(1, -1, 0, 0), 29);
        Check.is("full", x.make(0, -1, 1, 0), -4);
        Check.is("full on the other side", x.make(1, -1, 2, 0), -4);
        Check.is("ever", x.count(3), 30);
        x.back();
        Check.is("there is room again", x.make(0, -1, 40, 0), 28);
        Check.is("of 30", x.make(0, -1, 41, 0), 29);
        Check.is("not of 31", x.make(0, -1, 42, 0), -4);
        Check.is("by whom", x.latest(1), -1);
        Check.is("steps", x.latest(2), 0);
        Probe.refusesFull("full changes nothing", y -> y.make(0, -1, 49, 0), -4);
    }

    /** Each of thirty FOLDERS stands in the one before. */
    private static TwoTreesAlike chain(int side) {
        TwoTreesAlike x = new TwoTreesAlike();
        for (int i = 0; i < 30; i++) {
            x.make(side, i - 1, i, -1);
        }
        return x;
    }

    private static void thirtyStandInOneRow() {
        TwoTreesAlike x = chain(1);
        for (int i = 0; i < 30; i++) {
            Check.is("how deep", x.told(1, i, 5), i);
            Check.is("inner ones", x.told(1, i, 4), 29 - i);
            Check.is("folder", x.told(1, i, 1), i - 1);
            Check.is("found", x.find(1, i - 1, i), i);
            Check.is("come", x.told(1, i, 6), 1);
        }
        Check.is("all are there", x.count(1), 30);
        Check.is("all are made on the other side", x.sync(), 30);
        for (int i = 0; i < 30; i++) {
            Check.is("how deep in last", x.told(2, i, 5), i);
        }
        Check.is("the last of them", x.remove(0, 29), 1);
        Check.is("it isn't there", x.told(0, 29, 0), 0);
        Check.is("all of them", x.remove(1, 0), 30);
        Check.is("none is there", x.count(1), 0);
        Check.is("in last they are", x.count(2), 30);
    }

    /** "NAME (0 .. 49; no two alike in one FOLDER, or in THE ROOT, of a SIDE)". */
    private static void namesAreLikeInNoFolder() {
        TwoTreesAlike x = new TwoTreesAlike();
        x.make(0, -1, 0, -1);
        x.make(0, -1, 1, -1);
        Check.is("a file as a folder in the root", x.make(0, -1, 0, 5), -6);
        Check.is("a folder as a folder", x.make(0, -1, 1, -1), -6);
        Check.is("in a folder", x.make(0, 0, 1, 5), 2);
        Check.is("again in it", x.make(0, 0, 1, 6), -6);
        Check.is("by whom", x.latest(1), 2);
        Check.is("in another folder", x.make(0, 1, 1, 5), 3);
        Check.is("on the other side", x.make(1, -1, 1, 5), 4);
        x.sync();
        x.remove(0, 2);
        Check.is("last does not count", x.make(0, 0, 1, 7), 5);
        Check.is("nor does the other side", x.told(1, 2, 2), 1);
    }

    private static void makeIsBad() {
        int[][] all = {
            {-1, -1, 0, 0}, {2, -1, 0, 0}, {MIN, -1, 0, 0}, {MAX, -1, 0, 0},
            {0, -2, 0, 0}, {0, 7, 0, 0}, {0, MIN, 0, 0}, {0, MAX, 0, 0},
            {0, -1, -1, 0}, {0, -1, 50, 0}, {0, -1, MIN, 0}, {0, -1, MAX, 0},
            {0, -1, 0, -2}, {0, -1, 0, 1000}, {0, -1, 0, MIN}, {0, -1, 0, MAX},
            // ahead of STATE
            {0, 0, 50, 0}, {0, 0, 0, 1000}, {1, 5, -1, 0}, {1, 5, 0, -2}, {2, 0, 0, 0},
            // ahead of TAKEN
            {0, -1, 10, 1000}, {0, -1, 10, -2}, {2, -1, 10, 0},
        };
        for (int[] a : all) {
            Probe.refusesChange("make " + a[0] + " " + a[1] + " " + a[2] + " " + a[3],
                    x -> x.make(a[0], a[1], a[2], a[3]), -2);
        }
    }

    /** "STATE: folder is no FOLDER there; FULL; TAKEN." */
    private static void makeRefusesInOrder() {
        Probe.refusesChange("a file", x -> x.make(0, 0, 0, 0), -3);
        Probe.refusesChange("a folder of the other side", x -> x.make(0, 6, 0, 0), -3);
        Probe.refusesChange("a file that is not there", x -> x.make(0, 3, 0, 0), -3);
        Probe.refusesChange("taken in the root", x -> x.make(1, -1, 10, 0), -6);
        Probe.refusesChange("taken in a folder", x -> x.make(0, 2, 15, -1), -6);
        Probe.refusesFull("bad ahead of full", x -> x.make(0, -1, 50, 0), -2);
        Probe.refusesFull("bad content ahead of full", x -> x.make(0, -1, 40, 1000), -2);
        Probe.refusesFull("state ahead of full", x -> x.make(0, 0, 40, 0), -3);
        Probe.refusesFull("full ahead of taken", x -> x.make(0, -1, 10, 0), -4);
        TwoTreesAlike x = new TwoTreesAlike();
        x.make(0, -1, 0, -1);
        x.sync();
        x.remove(0, 0);
        Check.is("a folder that is removed there", x.make(0, 0, 0, 0), -3);
        Check.is("but not on the other side", x.make(1, 0, 0, 0), 1);
    }

    private static void makeTakesTheEdges() {
        TwoTreesAlike x = new TwoTreesAlike();
        Check.is("name 0, a folder", x.make(1, -1, 0, -1), 0);
        Check.is("name 49, content 0", x.make(1, 0, 49, 0), 1);
        Check.is("content 999", x.make(1, 0, 0, 999), 2);
        Check.is("content 1", x.make(1, 0, 1, 1), 3);
        Check.is("a folder of content 0", x.told(1, 0, 3), 0);
        Check.is("it is a folder", x.told(1, 0, 9), 1);
        Check.is("a file of content 0", x.told(1, 1, 3), 0);
        Check.is("it is a file", x.told(1, 1, 9), 0);
        Check.is("name", x.told(1, 1, 2), 49);
        Check.is("999", x.told(1, 2, 3), 999);
        Check.is("the folder may be 0", x.told(1, 2, 1), 0);
    }

    private static void writeIsBad() {
        int[][] all = {
            {-1, 0, 0}, {2, 0, 0}, {MIN, 0, 0}, {MAX, 0, 0},
            {0, -1, 0}, {0, 7, 0}, {0, MIN, 0}, {0, MAX, 0},
            {0, 0, -1}, {0, 0, 1000}, {0, 0, MIN}, {0, 0, MAX},
            // ahead of STATE, of -13
            {0, 3, -1}, {0, 3, 1000}, {0, 1, -1}, {2, 3, 0}, {2, 1, 0},
        };
        for (int[] a : all) {
            Probe.refusesChange("write " + a[0] + " " + a[1] + " " + a[2], x -> x.write(a[0], a[1], a[2]), -2);
        }
        Probe.refusesChange("it isn't there", x -> x.write(0, 3, 5), -3);
        Probe.refusesChange("nor is the folder", x -> x.write(0, 6, 5), -3);
        Probe.refusesChange("a folder", x -> x.write(0, 1, 0), -13);
    }

    private static void writeTakesTheEdges() {
        TwoTreesAlike x = Probe.busy();
        Check.is("0", x.write(0, 0, 0), 7);
        Check.is("999", x.write(0, 0, 999), 0);
        Check.is("the same", x.write(0, 0, 999), 999);
        Check.is("998", x.write(0, 0, 998), 999);
        Check.is("it is 998", x.told(0, 0, 3), 998);
        Check.is("on this side alone", x.told(1, 0, 3), 8);
        Check.is("on the other", x.write(1, 0, 1), 8);
        Check.is("this one stays", x.told(0, 0, 3), 998);
        Check.is("last stays", x.told(2, 0, 3), 9);
        Check.is("of one alone", x.write(0, 4, 3), 6);
        Check.is("place stays", x.told(0, 4, 2), 14);
    }

    private static void moveIsBad() {
        int[][] all = {
            {-1, 0, -1, 0}, {2, 0, -1, 0}, {MIN, 0, -1, 0}, {MAX, 0, -1, 0},
            {0, -1, -1, 0}, {0, 7, -1, 0}, {0, MIN, -1, 0}, {0, MAX, -1, 0},
            {0, 0, -2, 0}, {0, 0, 7, 0}, {0, 0, MIN, 0}, {0, 0, MAX, 0},
            {0, 0, -1, -1}, {0, 0, -1, 50}, {0, 0, -1, MIN}, {0, 0, -1, MAX},
            // ahead of STATE, RING, TAKEN
            {0, 3, -1, 50}, {0, 3, 7, 0}, {0, 4, 0, 50}, {0, 1, 1, 50}, {0, 1, 2, -1}, {2, 1, 1, 0}, {2, 1, -1, 10},
        };
        for (int[] a : all) {
            Probe.refusesChange("move " + a[0] + " " + a[1] + " " + a[2] + " " + a[3],
                    x -> x.move(a[0], a[1], a[2], a[3]), -2);
        }
    }

    /** "STATE: it isn't there, folder is no FOLDER there; RING; TAKEN." */
    private static void moveRefusesInOrder() {
        Probe.refusesChange("it isn't there", x -> x.move(0, 3, -1, 0), -3);
        Probe.refusesChange("into a file", x -> x.move(0, 4, 0, 0), -3);
        Probe.refusesChange("a file into itself", x -> x.move(0, 4, 4, 0), -3);
        Probe.refusesChange("into a folder of the other side", x -> x.move(0, 4, 6, 0), -3);
        Probe.refusesChange("into itself", x -> x.move(0, 1, 1, 0), -7);
        Probe.refusesChange("into an inner one", x -> x.move(0, 1, 2, 0), -7);
        Probe.refusesChange("a ring ahead of taken", x -> x.move(0, 1, 1, 12), -7);
        Probe.refusesChange("a ring of an inner one ahead of taken", x -> x.move(0, 1, 2, 15), -7);
        Probe.refusesChange("taken by a file", x -> x.move(0, 1, -1, 10), -6);
        Probe.refusesChange("taken in its own folder", x -> x.move(0, 4, 1, 12), -6);
        Probe.refusesChange("taken in another one", x -> x.move(0, 4, 2, 15), -6);
    }

    private static void moveTakesTheEdges() {
        TwoTreesAlike x = Probe.busy();
        Check.is("0", x.move(0, 0, 1, 0), 1);
        Check.is("49", x.move(0, 0, -1, 49), 1);
        Check.is("where it is", x.move(0, 0, -1, 49), 1);
        Check.is("of one alone", x.move(0, 5, 1, 15), 1);
        Check.is("the name that it had", x.move(0, 4, 2, 15), 1);
        Check.is("a folder to the root", x.move(0, 2, -1, 11), -6);
        Check.is("under another name", x.move(0, 2, -1, 12), 1);
        Check.is("what was above goes into what was in it", x.move(0, 1, 2, 11), 1);
        Check.is("the other side stays", x.told(1, 2, 1), 1);
        Check.is("last stays", x.told(2, 2, 1), 1);
        Check.is("content stays", x.told(0, 0, 3), 7);
    }

    private static void moveTakesInnerOnesAlong() {
        TwoTreesAlike x = chain(0);
        x.move(0, 1, -1, 40);
        Check.is("it is in the root", x.told(0, 1, 5), 0);
        Check.is("the last one is less deep", x.told(0, 29, 5), 28);
        Check.is("it has all of them", x.told(0, 1, 4), 28);
        Check.is("the first has none", x.told(0, 0, 4), 0);
        Check.is("the first goes behind the last", x.move(0, 0, 29, 0), 1);
        Check.is("it is the deepest", x.told(0, 0, 5), 29);
        Check.is("inner ones of the last", x.told(0, 29, 4), 1);
    }

    private static void removeRefuses() {
        int[][] all = {
            {-1, 0}, {2, 0}, {MIN, 0}, {MAX, 0}, {0, -1}, {0, 7}, {0, MIN}, {0, MAX}, {2, 3},
        };
        for (int[] a : all) {
            Probe.refusesChange("remove " + a[0] + " " + a[1], x -> x.remove(a[0], a[1]), -2);
        }
        Probe.refusesChange("it isn't there", x -> x.remove(0, 3), -3);
        Probe.refusesChange("nor the folder", x -> x.remove(0, 6), -3);
    }

    /** "A THING is REMOVED, with its INNER ones: how many." */
    private static void removeTakesAll() {
        TwoTreesAlike x = Probe.busy();
        Check.is("a file", x.remove(0, 0), 1);
        Check.is("a folder with three", x.remove(0, 1), 4);
        Check.is("none is left", x.count(0), 0);
        Check.is("an empty folder", x.remove(1, 6), 1);
        Check.is("the others are there", x.count(1), 4);
        Check.is("last stays", x.count(2), 5);
        Check.is("removed with its folder", x.remove(0, 5), -3);
        Check.is("its name is free", x.make(0, -1, 11, 0), 7);
        Check.is("a folder for good", x.told(0, 1, 9), 1);
        Check.is("no inner ones then", x.told(0, 1, 4), 0);
        Check.is("not deep then", x.told(0, 2, 5), -1);
        Check.is("in no folder then", x.told(0, 2, 1), -1);
    }

    private static void toldIsBad() {
        int[][] all = {
            {-1, 0, 0}, {3, 0, 0}, {MIN, 0, 0}, {MAX, 0, 0}, {0, -1, 0}, {0, 7, 0}, {0, MIN, 0}, {0, MAX, 0},
            {0, 0, -1}, {0, 0, 10}, {0, 0, MIN}, {0, 0, MAX},
        };
        for (int[] a : all) {
            Probe.refuses("told " + a[0] + " " + a[1] + " " + a[2], x -> x.told(a[0], a[1], a[2]), -2);
        }
    }

    private static void toldOfOneThatIsNotThere() {
        TwoTreesAlike x = Probe.busy();
        // of 3 (GONE on SIDE 0), of 6 (never there), and of 6 in LAST
        int[][] due = {{0, -1, -1, -1, 0, -1, 2, 0, 0, 0}, {0, -1, -1, -1, 0, -1, 0, 0, 0, 1}};
        for (int what = 0; what <= 9; what++) {
            Check.is("gone, " + what, x.told(0, 3, what), due[0][what]);
            Check.is("never there, " + what, x.told(0, 6, what), due[1][what]);
            Check.is("not in last, " + what, x.told(2, 6, what), due[1][what]);
        }
        Check.is("in the root it is there", x.told(1, 6, 0), 1);
        Check.is("in the root", x.told(1, 6, 1), -1);
        Check.is("0 deep", x.told(1, 6, 5), 0);
    }

    /** "COME (1), GONE (2), MOVED (4: FOLDER or NAME isn't the same), WRITTEN (8); bits"; "of LAST 0". */
    private static void toldOfChanges() {
        TwoTreesAlike x = Probe.busy();
        Check.is("written", x.told(0, 0, 6), 8);
        Check.is("come", x.told(0, 5, 6), 1);
        Check.is("come on the other side", x.told(1, 6, 6), 1);
        Check.is("not come here", x.told(0, 6, 6), 0);
        Check.is("gone", x.told(1, 4, 6), 2);
        Check.is("unchanged", x.told(0, 4, 6), 0);
        x.move(1, 3, 2, 12);
        Check.is("another name", x.told(1, 3, 6), 4);
        x.move(1, 3, 1, 13);
        Check.is("another folder", x.told(1, 3, 6), 4);
        x.write(1, 3, 4);
        Check.is("moved and written", x.told(1, 3, 6), 12);
        x.move(1, 3, 2, 13);
        Check.is("written alone", x.told(1, 3, 6), 8);
        x.write(1, 3, 5);
        Check.is("as in last", x.told(1, 3, 6), 0);
        x.write(0, 5, 0);
        x.move(0, 5, -1, 30);
        Check.is("come is come alone", x.told(0, 5, 6), 1);
        x.move(0, 1, -1, 30 + 1);
        Check.is("inner ones are not moved", x.told(0, 2, 6), 0);
        for (int thing = 0; thing < 7; thing++) {
            Check.is("of last none", x.told(2, thing, 6), 0);
        }
        x.remove(0, 5);
        Check.is("come and removed", x.told(0, 5, 6), 0);
        x.remove(1, 6);
        Check.is("that one, too", x.told(1, 6, 6), 0);
    }

    private static void findIsBad() {
        int[][] all = {
            {-1, -1, 10}, {3, -1, 10}, {MIN, -1, 10}, {MAX, -1, 10}, {0, -2, 10}, {0, 7, 10}, {0, MIN, 10}, {0, MAX, 10},
        };
        for (int[] a : all) {
            Probe.refuses("find " + a[0] + " " + a[1], x -> x.find(a[0], a[1], a[2]), -2);
        }
    }

    /** "under a NAME (any int)". */
    private static void findTakesTheEdges() {
        TwoTreesAlike x = Probe.busy();
        x.make(0, 1, 0, 0);
        x.make(0, -1, 49, 0);
        for (int name : new int[] {MIN, -2, -1, 1, 48, 50, 99, 110, MAX}) {
            Check.is("none", x.find(0, -1, name), -1);
            Check.is("none in a folder", x.find(0, 1, name), -1);
        }
        Check.is("0", x.find(0, 1, 0), 7);
        Check.is("49", x.find(0, -1, 49), 8);
        Check.is("thing 0", x.find(0, -1, 10), 0);
        Check.is("in last", x.find(2, 2, 13), 3);
        Check.is("it is gone here", x.find(0, 2, 13), -1);
        Check.is("on the other side", x.find(1, 2, 13), 3);
        Check.is("in a file", x.find(0, 0, 10), -1);
        Check.is("in a folder that isn't there", x.find(0, 6, 10), -1);
        Check.is("the last thing as folder", x.find(0, 8, 49), -1);
    }

    private static void takenRefuses() {
        int[][] all = {
            {-1, 0}, {7, 0}, {MIN, 0}, {MAX, 0}, {0, -1}, {0, 3}, {0, MIN}, {0, MAX}, {7, 3},
        };
        for (int[] a : all) {
            Probe.refuses("taken " + a[0] + " " + a[1], x -> x.taken(a[0], a[1]), -2);
        }
        Probe.refuses("no file", x -> x.taken(1, 0), -13);
        Probe.refuses("no folder", x -> x.taken(0, 1), -13);
        Probe.refuses("a file on side 0", x -> x.taken(5, 2), -13);
        TwoTreesAlike x = Probe.busy();
        x.make(1, 6, 0, 0);
        Check.is("something is in it on side 1 alone", x.taken(6, 2), -13);
        Check.is("a file that isn't there", x.taken(3, 0), 3);
        Check.is("a folder that isn't there", x.taken(6, 1), 6);
        Check.is("an inner one alone", x.taken(2, 2), 2);
        x.remove(0, 5);
        Check.is("something in it on side 1 and in last", x.taken(2, 2), -13);
        Check.is("it is in one itself", x.taken(1, 2), 1);
        Check.is("a file", x.taken(0, 2), -13);
    }

    private static void latestIsBad() {
        for (int what : new int[] {-1, 3, MIN, MAX}) {
            Probe.refuses("latest " + what, x -> x.latest(what), -2);
        }
    }

    private static void latestIs(String what, TwoTreesAlike x, int refused, int by, int steps) {
        Check.is(what + ": what", x.latest(0), refused);
        Check.is(what + ": by whom", x.latest(1), by);
        Check.is(what + ": steps", x.latest(2), steps);
    }

    /** "what it refused (0: it didn't), by whom (.. else NONE), of RING how many FOLDERS (.. else 0)". */
    private static void latestOfEachRefusal() {
        TwoTreesAlike x = Probe.busy();
        latestIs("a ring", x, -7, 2, 1);
        x.write(0, 0, 1);
        latestIs("written", x, 0, -1, 0);
        x.move(0, 1, 1, 0);
        latestIs("a ring of itself", x, -7, 1, 0);
        x.make(0, -1, 30, 0);
        latestIs("made", x, 0, -1, 0);
        x.move(0, 1, 2, 0);
        latestIs("a ring again", x, -7, 2, 1);
        x.remove(0, 7);
        latestIs("removed", x, 0, -1, 0);
        x.move(0, 1, 2, 0);
        x.move(0, 0, -1, 10);
        latestIs("moved", x, 0, -1, 0);
        x.move(0, 1, 2, 0);
        x.remove(0, 9);
        latestIs("bad by remove", x, -2, -1, 0);
        x.move(0, 1, 2, 0);
        x.make(0, -1, 10, 0);
        latestIs("taken by thing 0", x, -6, 0, 0);
        x.make(0, 0, 0, 0);
        latestIs("thing 0 is no folder", x, -3, 0, 0);
        x.write(0, 1, 0);
        latestIs("a folder is not written", x, -13, -1, 0);
        x.move(0, 4, 6, 0);
        latestIs("a folder of the other side", x, -3, 6, 0);
        x.write(0, 3, 0);
        latestIs("not there", x, -3, 3, 0);
        x.move(0, 1, -1, 10);
        latestIs("taken", x, -6, 0, 0);
        x.find(9, 9, 9);
        x.told(9, 9, 9);
        x.taken(9, 9);
        x.matches(9, 9, 9);
        x.prefer(9);
        x.spared(9, 9);
        x.drawn(3, 20);
        x.chance(3, 10, 0);
        x.image();
        x.sync();
        latestIs("of others it does not tell", x, -6, 0, 0);
    }

    /** "STATE: it isn't there, folder is no FOLDER there": the first of both is told of. */
    private static void latestOfBothRefusals() {
        TwoTreesAlike x = Probe.busy();
        x.move(0, 3, 6, 0);
        latestIs("the thing", x, -3, 3, 0);
        x.move(0, 6, 0, 0);
        latestIs("the thing, not the file", x, -3, 6, 0);
        x.move(0, 4, 4, 0);
        latestIs("a file in itself", x, -3, 4, 0);
        x.move(0, 3, 7, 0);
        latestIs("bad is by none", x, -2, -1, 0);
    }

    /** "of RING how many FOLDERS the FOLDER stands in up to the THING (0: it is the THING)". */
    private static void latestOfTheLongestRing() {
        TwoTreesAlike x = chain(0);
        for (int folder = 0; folder < 30; folder++) {
            Check.is("ring", x.move(0, 0, folder, 49), -7);
            latestIs("ring by " + folder, x, -7, folder, folder);
        }
        x.move(0, 28, 29, 49);
        latestIs("the least ring", x, -7, 29, 1);
        x.move(0, 29, 29, 49);
        latestIs("its own", x, -7, 29, 0);
        Check.is("none above is in a ring", x.move(0, 29, 0, 49), 1);
        x.make(0, -1, 0, 0);
        latestIs("full is by none", x, -4, -1, 0);
    }
}
