/** Promises 1 to 9: a new object, and changes on a side. */
public final class SidesTest {
    public static void main(String[] args) {
        aNewObjectIsEmpty();
        makeNumbersThings();
        makeRefuses();
        makeIsFullAtThirty();
        writeTellsWhatItWas();
        writeRefuses();
        moveGoes();
        moveRefuses();
        removeTakesInnerOnes();
        toldTells();
        toldOfIgnored();
        findLooks();
        takenTests();
        latestTells();
        Check.end("SidesTest");
    }

    private static void aNewObjectIsEmpty() {
        TwoTreesAlike x = new TwoTreesAlike();
        for (int i = 0; i <= 6; i++) {
            Check.is("new count " + i, x.count(i), 0);
        }
        Check.is("new latest 0", x.latest(0), 0);
        Check.is("new latest 1", x.latest(1), -1);
        Check.is("new latest 2", x.latest(2), 0);
        Check.is("new would 0", x.would(0), 0);
        Check.is("new would 1", x.would(1), 0);
        Check.is("new would 2", x.would(2), 0);
        Check.is("new would 3", x.would(3), 1);
        Check.is("new sync", x.sync(), 0);
        Check.is("new back", x.back(), -3);
        Check.is("new told", x.told(0, 0, 0), -2);
        Check.is("new find", x.find(0, -1, 0), -1);
        for (int i = 0; i < 4; i++) {
            Check.is("new cell", x.cell(i, 0, 0), -11);
        }
    }

    private static void makeNumbersThings() {
        TwoTreesAlike x = new TwoTreesAlike();
        Check.is("folder", x.make(0, -1, 0, -1), 0);
        Check.is("file", x.make(0, 0, 49, 999), 1);
        Check.is("same name elsewhere", x.make(0, -1, 49, 0), 2);
        Check.is("same name on the other side", x.make(1, -1, 0, 5), 3);
        Check.is("content", x.told(0, 1, 3), 999);
        Check.is("a folder's content", x.told(0, 0, 3), 0);
        Check.is("not on the other side", x.told(1, 0, 0), 0);
        Check.is("not in last", x.told(2, 0, 0), 0);
        Check.is("ever", x.count(3), 4);
    }

    private static void makeRefuses() {
        TwoTreesAlike x = new TwoTreesAlike();
        x.make(0, -1, 0, -1);
        x.make(0, -1, 1, 3);
        Check.is("side 2", x.make(2, -1, 2, 0), -2);
        Check.is("side -1", x.make(-1, -1, 2, 0), -2);
        Check.is("folder 2", x.make(0, 2, 2, 0), -2);
        Check.is("folder -2", x.make(0, -2, 2, 0), -2);
        Check.is("name -1", x.make(0, -1, -1, 0), -2);
        Check.is("name 50", x.make(0, -1, 50, 0), -2);
        Check.is("content -2", x.make(0, -1, 2, -2), -2);
        Check.is("content 1000", x.make(0, -1, 2, 1000), -2);
        Check.is("in a file", x.make(0, 1, 2, 0), -3);
        Check.is("folder on the other side alone", x.make(1, 0, 2, 0), -3);
        Check.is("name taken", x.make(0, -1, 1, -1), -6);
        Check.is("nothing changed", x.count(3), 2);
    }

    private static void makeIsFullAtThirty() {
        TwoTreesAlike x = new TwoTreesAlike();
        for (int i = 0; i < 30; i++) {
            Check.is("thing", x.make(0, -1, i, i), i);
        }
        Check.is("state ahead of full", x.make(0, 3, 40, 0), -3);
        Check.is("full", x.make(0, -1, 40, 0), -4);
        Check.is("full tells", x.latest(0), -4);
        Check.is("full by whom", x.latest(1), -1);
        Check.is("full ahead of taken", x.make(0, -1, 0, 0), -4);
        x.remove(0, 4);
        Check.is("removed ones count", x.make(0, -1, 4, 0), -4);
    }

    private static void writeTellsWhatItWas() {
        TwoTreesAlike x = new TwoTreesAlike();
        x.make(0, -1, 0, 7);
        x.sync();
        Check.is("was 7", x.write(0, 0, 0), 7);
        Check.is("was 0", x.write(0, 0, 999), 0);
        Check.is("is 999", x.told(0, 0, 3), 999);
        Check.is("the other is not", x.told(1, 0, 3), 7);
        Check.is("last is not", x.told(2, 0, 3), 7);
    }

    private static void writeRefuses() {
        TwoTreesAlike x = new TwoTreesAlike();
        x.make(0, -1, 0, 7);
        x.make(0, -1, 1, -1);
        Check.is("side", x.write(2, 0, 1), -2);
        Check.is("thing", x.write(0, 2, 1), -2);
        Check.is("thing -1", x.write(0, -1, 1), -2);
        Check.is("v -1", x.write(0, 0, -1), -2);
        Check.is("v 1000", x.write(0, 0, 1000), -2);
        Check.is("not there", x.write(1, 0, 1), -3);
        Check.is("folder not there", x.write(1, 1, 1), -3);
        Check.is("folder", x.write(0, 1, 1), -13);
        Check.is("unchanged", x.told(0, 0, 3), 7);
    }

    private static void moveGoes() {
        TwoTreesAlike x = new TwoTreesAlike();
        x.make(0, -1, 0, -1);
        x.make(0, -1, 1, 5);
        Check.is("into", x.move(0, 1, 0, 9), 1);
        Check.is("folder", x.told(0, 1, 1), 0);
        Check.is("name", x.told(0, 1, 2), 9);
        Check.is("to where it is", x.move(0, 1, 0, 9), 1);
        Check.is("to the root", x.move(0, 1, -1, 49), 1);
        Check.is("the root", x.told(0, 1, 1), -1);
    }

    private static void moveRefuses() {
        TwoTreesAlike x = new TwoTreesAlike();
        x.make(0, -1, 0, -1);
        x.make(0, 0, 1, -1);
        x.make(0, -1, 2, 5);
        Check.is("side", x.move(2, 0, -1, 3), -2);
        Check.is("thing", x.move(0, 3, -1, 3), -2);
        Check.is("folder", x.move(0, 0, 3, 3), -2);
        Check.is("folder -2", x.move(0, 0, -2, 3), -2);
        Check.is("name", x.move(0, 0, -1, 50), -2);
        Check.is("name -1", x.move(0, 0, -1, -1), -2);
        Check.is("not there", x.move(1, 0, -1, 3), -3);
        Check.is("into a file", x.move(0, 0, 2, 3), -3);
        Check.is("into a file: by whom", x.latest(1), 2);
        Check.is("into itself", x.move(0, 0, 0, 3), -7);
        Check.is("into an inner one", x.move(0, 0, 1, 3), -7);
        Check.is("ring ahead of taken", x.move(0, 0, 0, 1), -7);
        Check.is("taken", x.move(0, 1, -1, 2), -6);
        Check.is("taken by whom", x.latest(1), 2);
        Check.is("unchanged", x.told(0, 1, 1), 0);
    }

    private static void removeTakesInnerOnes() {
        TwoTreesAlike x = new TwoTreesAlike();
        x.make(0, -1, 0, -1);
        x.make(0, -1, 1, -1);
        x.make(0, 1, 1, 4);
        x.make(0, -1, 2, 5);
        x.move(0, 0, 1, 7);
        x.make(0, 0, 3, 6);
        Check.is("side", x.remove(2, 0), -2);
        Check.is("thing", x.remove(0, 5), -2);
        Check.is("not there", x.remove(1, 0), -3);
        Check.is("with its inner ones", x.remove(0, 1), 4);
        Check.is("one is left", x.count(0), 1);
        Check.is("that one", x.told(0, 3, 0), 1);
        Check.is("again", x.remove(0, 1), -3);
        Check.is("alone", x.remove(0, 3), 1);
    }

    private static void toldTells() {
        TwoTreesAlike x = new TwoTreesAlike();
        x.make(0, -1, 3, -1);
        x.make(0, 0, 4, -1);
        x.make(0, 1, 5, 9);
        int[] due = {1, 0, 4, 0, 1, 1, 1, 0, 0, 1};
        for (int what = 0; what < due.length; what++) {
            Check.is("told " + what, x.told(0, 1, what), due[what]);
        }
        int[] dueElsewhere = {0, -1, -1, -1, 0, -1, 0, 0, 0, 1};
        for (int what = 0; what < dueElsewhere.length; what++) {
            Check.is("told elsewhere " + what, x.told(1, 1, what), dueElsewhere[what]);
        }
        Check.is("inner ones", x.told(0, 0, 4), 2);
        Check.is("deep in the root", x.told(0, 0, 5), 0);
        Check.is("deep", x.told(0, 2, 5), 2);
        Check.is("a file is no folder", x.told(0, 2, 9), 0);
        x.sync();
        Check.is("in last", x.told(2, 2, 3), 9);
        x.write(0, 2, 8);
        x.move(0, 2, 0, 5);
        Check.is("moved, written", x.told(0, 2, 6), 12);
        Check.is("of last none", x.told(2, 2, 6), 0);
        Check.is("unchanged", x.told(1, 2, 6), 0);
        x.move(0, 2, 0, 6);
        x.move(0, 2, 1, 5);
        x.write(0, 2, 9);
        Check.is("as it was", x.told(0, 2, 6), 0);
        x.move(0, 2, 1, 6);
        Check.is("a name is a place", x.told(0, 2, 6), 4);
        x.remove(1, 1);
        Check.is("gone", x.told(1, 2, 6), 2);
        Check.is("gone, the folder", x.told(1, 1, 6), 2);
        Check.is("side 3", x.told(3, 0, 0), -2);
        Check.is("side -1", x.told(-1, 0, 0), -2);
        Check.is("thing 3", x.told(0, 3, 0), -2);
        Check.is("thing -1", x.told(0, -1, 0), -2);
        Check.is("what 10", x.told(0, 0, 10), -2);
        Check.is("what -1", x.told(0, 0, -1), -2);
    }

    private static void toldOfIgnored() {
        TwoTreesAlike x = new TwoTreesAlike();
        x.make(0, -1, 3, -1);
        x.make(0, 0, 4, 9);
        x.make(0, 0, 5, 9);
        x.sync();
        x.move(1, 0, -1, 6);
        x.write(1, 1, 8);
        Check.pattern(x, "3");
        Check.pattern(x, "!3/4");
        Check.is("ignored there", x.told(0, 0, 7), 1);
        Check.is("ignored in last", x.told(2, 0, 7), 1);
        Check.is("not ignored by its name here", x.told(1, 0, 7), 0);
        Check.is("but at all", x.told(1, 0, 8), 1);
        Check.is("by the folder", x.told(0, 2, 7), 1);
        Check.is("the innermost decides", x.told(0, 1, 7), 0);
        Check.is("but it stands in one that is ignored", x.told(0, 1, 8), 1);
        Check.is("what is ignored is not changed", x.told(1, 1, 6), 0);
        Check.is("nor moved", x.told(1, 0, 6), 0);
        x.drop();
        x.drop();
        Check.is("not ignored any longer", x.told(1, 1, 6), 8);
        Check.pattern(x, "**");
        Check.pattern(x, "!3");
        Check.pattern(x, "3/**");
        Check.is("the last one decides", x.told(0, 0, 7), 1);
        x.drop();
        Check.is("the last one is a !", x.told(0, 0, 7), 0);
        Check.is("of an inner one its own path", x.told(0, 1, 7), 1);
    }

    private static void findLooks() {
        TwoTreesAlike x = new TwoTreesAlike();
        x.make(0, -1, 3, -1);
        x.make(0, 0, 4, 9);
        Check.is("in the root", x.find(0, -1, 3), 0);
        Check.is("in a folder", x.find(0, 0, 4), 1);
        Check.is("none there", x.find(0, 0, 3), -1);
        Check.is("in a file", x.find(0, 1, 3), -1);
        Check.is("other side", x.find(1, -1, 3), -1);
        Check.is("any name", x.find(0, -1, Integer.MIN_VALUE), -1);
        Check.is("name of none", x.find(1, -1, -1), -1);
        Check.is("side", x.find(3, -1, 0), -2);
        Check.is("folder", x.find(0, 2, 0), -2);
        Check.is("folder -2", x.find(0, -2, 0), -2);
        x.sync();
        Check.is("in last", x.find(2, 0, 4), 1);
    }

    private static void takenTests() {
        TwoTreesAlike x = new TwoTreesAlike();
        x.make(0, -1, 3, -1);
        x.make(0, 0, 4, 9);
        x.make(1, -1, 5, -1);
        x.make(1, 2, 5, 1);
        Check.is("a file", x.taken(1, 0), 1);
        Check.is("no file", x.taken(0, 0), -13);
        Check.is("a folder", x.taken(0, 1), 0);
        Check.is("a folder on the other side", x.taken(2, 1), 2);
        Check.is("no folder", x.taken(1, 1), -13);
        Check.is("something in it", x.taken(0, 2), 0);
        Check.is("a file has nothing in it", x.taken(1, 2), -13);
        Check.is("something on side 1 alone", x.taken(2, 2), -13);
        Check.is("thing", x.taken(4, 0), -2);
        Check.is("thing -1", x.taken(-1, 0), -2);
        Check.is("kind", x.taken(0, 3), -2);
        Check.is("kind -1", x.taken(0, -1), -2);
        x.remove(0, 1);
        Check.is("empty", x.taken(0, 2), -13);
    }

    private static void latestIs(String what, TwoTreesAlike x, int refused, int by, int steps) {
        Check.is(what + ": what", x.latest(0), refused);
        Check.is(what + ": by whom", x.latest(1), by);
        Check.is(what + ": steps", x.latest(2), steps);
    }

    private static void latestTells() {
        TwoTreesAlike x = new TwoTreesAlike();
        x.make(0, -1, 0, -1);
        x.make(0, 0, 0, -1);
        x.make(0, 1, 0, -1);
        x.make(0, -1, 1, 4);
        latestIs("done", x, 0, -1, 0);
        x.move(0, 0, 0, 5);
        latestIs("ring of itself", x, -7, 0, 0);
        x.move(0, 0, 2, 5);
        latestIs("ring", x, -7, 2, 2);
        x.move(0, 3, -1, 1);
        latestIs("done behind a ring", x, 0, -1, 0);
        x.move(0, 0, 1, 5);
        latestIs("another ring", x, -7, 1, 1);
        x.move(0, 3, 0, 0);
        latestIs("taken", x, -6, 1, 0);
        x.make(0, -1, 1, 0);
        latestIs("taken for a new one", x, -6, 3, 0);
        x.write(1, 3, 0);
        latestIs("not there", x, -3, 3, 0);
        x.make(0, -1, 50, 0);
        latestIs("make: bad", x, -2, -1, 0);
        x.move(1, 2, 0, 0);
        latestIs("moved where it is not", x, -3, 2, 0);
        x.write(0, 9, 0);
        latestIs("write: bad", x, -2, -1, 0);
        x.move(0, 3, -1, -1);
        latestIs("move: bad", x, -2, -1, 0);
        x.make(0, 3, 0, 0);
        latestIs("no folder", x, -3, 3, 0);
        x.write(0, 0, 0);
        latestIs("a folder", x, -13, -1, 0);
        x.remove(0, 9);
        latestIs("bad", x, -2, -1, 0);
        x.remove(1, 2);
        latestIs("removed where it is not", x, -3, 2, 0);
        x.find(7, 7, 7);
        x.prefer(1);
        x.sync();
        latestIs("other calls do not count", x, -3, 2, 0);
        x.drawn(5, 20);
        x.chance(5, 10, 0);
        latestIs("nor does what is in thought", x, -3, 2, 0);
        x.write(1, 3, 0);
        latestIs("done again", x, 0, -1, 0);
        Check.is("latest 3", x.latest(3), -2);
        Check.is("latest -1", x.latest(-1), -2);
    }
}
