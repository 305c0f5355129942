/** Promises 14 to 19: what would be, and what is, when both are made alike. */
public final class AlikeTest {
    public static void main(String[] args) {
        preferTells();
        whatOneChangedGoesToTheOther();
        goneOnOneSide();
        keptIsTold();
        keptByInnerOnes();
        placesUnlike();
        contentsUnlike();
        noRoomForTheOther();
        ringsAreMended();
        ringsWithTails();
        namesAreMended();
        ignoredOnesHoldNames();
        ignoredStayInLast();
        comeOnBoth();
        alikeIn();
        ignoredWithinIgnored();
        numberZeroCounts();
        namesAboveFortyNine();
        planInOrder();
        refusals();
        Check.end("AlikeTest");
    }

    private static void clashIs(TwoTreesAlike x, int i, int kind, int thing) {
        Check.is("kind of clash " + i, x.clash(i, 0), kind);
        Check.is("thing of clash " + i, x.clash(i, 1), thing);
    }

    private static void clashesAre(TwoTreesAlike x, int... kindsAndThings) {
        Check.is("clashes", x.would(0), kindsAndThings.length / 2);
        for (int i = 0; i < kindsAndThings.length / 2; i++) {
            clashIs(x, i, kindsAndThings[2 * i], kindsAndThings[2 * i + 1]);
        }
    }

    private static void targetIs(TwoTreesAlike x, int thing, int folder, int name, int content, int deep) {
        Check.is("target's folder of " + thing, x.target(thing, 0), folder);
        Check.is("target's name of " + thing, x.target(thing, 1), name);
        Check.is("target's content of " + thing, x.target(thing, 2), content);
        Check.is("target's depth of " + thing, x.target(thing, 3), deep);
    }

    private static void stepIs(TwoTreesAlike x, int side, int i, int... due) {
        for (int what = 0; what < 5; what++) {
            Check.is("step " + i + " of side " + side + ", " + what, x.step(side, i, what), due[what]);
        }
    }

    private static void preferTells() {
        TwoTreesAlike x = new TwoTreesAlike();
        Check.is("it was 0", x.prefer(1), 0);
        Check.is("it was 1", x.prefer(1), 1);
        Check.is("bad", x.prefer(2), -2);
        Check.is("bad -1", x.prefer(-1), -2);
        Check.is("it is 1", x.count(6), 1);
        Check.is("it was 1 still", x.prefer(0), 1);
    }

    private static void whatOneChangedGoesToTheOther() {
        TwoTreesAlike x = new TwoTreesAlike();
        x.make(0, -1, 1, -1);
        x.make(1, -1, 2, 5);
        x.make(0, -1, 3, 6);
        Check.is("not alike", x.would(3), 0);
        Check.is("three are made", x.sync(), 3);
        Check.is("alike", x.would(3), 1);
        x.move(0, 1, 0, 7);
        x.write(1, 1, 8);
        x.remove(1, 2);
        targetIs(x, 1, 0, 7, 8, 1);
        targetIs(x, 2, -1, -1, -1, -1);
        clashesAre(x);
        // side 0: aside 2, write 1, remove 2; side 1: aside 1, place 1
        Check.is("steps", x.sync(), 5);
        Check.is("moved", x.told(1, 1, 1), 0);
        Check.is("written", x.told(0, 1, 3), 8);
        Check.is("removed", x.told(0, 2, 0), 0);
        Check.is("last too", x.told(2, 2, 0), 0);
        Check.is("last's folder", x.told(2, 1, 1), 0);
        Check.is("last's content", x.told(2, 1, 3), 8);
        Check.is("nothing more", x.sync(), 0);
    }

    private static void goneOnOneSide() {
        TwoTreesAlike x = new TwoTreesAlike();
        x.make(0, -1, 1, -1);
        x.make(0, 0, 2, 5);
        x.sync();
        x.remove(0, 0);
        clashesAre(x);
        Check.is("steps of side 0", x.would(1), 0);
        Check.is("steps of side 1", x.would(2), 4);
        x.remove(1, 0);
        Check.is("gone on both", x.sync(), 0);
        Check.is("none in last", x.count(2), 0);
    }

    private static void keptIsTold() {
        TwoTreesAlike x = new TwoTreesAlike();
        x.make(0, -1, 1, 5);
        x.make(0, -1, 2, 6);
        x.sync();
        x.remove(0, 0);
        x.remove(1, 1);
        x.write(1, 0, 7);
        x.move(0, 1, -1, 9);
        clashesAre(x, 0, 0, 0, 1);
        targetIs(x, 0, -1, 1, 7, 0);
        targetIs(x, 1, -1, 9, 6, 0);
        Check.is("made on each side", x.sync(), 2);
        Check.is("alike", x.would(3), 1);
    }

    private static void keptByInnerOnes() {
        TwoTreesAlike x = new TwoTreesAlike();
        x.make(0, -1, 1, -1);
        x.make(0, 0, 2, -1);
        x.make(0, 1, 3, 5);
        x.make(0, 0, 4, 6);
        x.sync();
        x.remove(0, 0);
        x.make(1, 1, 9, 7);
        // the folders stay for the new file, the old files don't
        clashesAre(x, 0, 0, 0, 1);
        targetIs(x, 2, -1, -1, -1, -1);
        targetIs(x, 3, -1, -1, -1, -1);
        targetIs(x, 4, 1, 9, 7, 2);
        x.sync();
        Check.is("three are left", x.count(0), 3);
        Check.is("on both", x.count(1), 3);
        x.remove(1, 0);
        x.move(0, 4, 0, 9);
        clashesAre(x, 0, 0, 0, 4);
        targetIs(x, 1, -1, -1, -1, -1);
    }

    private static void placesUnlike() {
        TwoTreesAlike x = new TwoTreesAlike();
        x.make(0, -1, 1, -1);
        x.make(0, -1, 2, 5);
        x.sync();
        x.move(0, 1, 0, 3);
        x.move(1, 1, 0, 3);
        clashesAre(x);
        Check.is("moved alike, no steps", x.would(1) + x.would(2), 0);
        x.move(1, 1, 0, 4);
        clashesAre(x, 1, 1);
        targetIs(x, 1, 0, 3, 5, 1);
        x.prefer(1);
        clashesAre(x, 1, 1);
        targetIs(x, 1, 0, 4, 5, 1);
    }

    private static void contentsUnlike() {
        TwoTreesAlike x = new TwoTreesAlike();
        x.make(0, -1, 1, 5);
        x.make(0, -1, 0, 6);
        x.sync();
        x.write(0, 0, 7);
        x.write(1, 0, 7);
        clashesAre(x);
        x.write(1, 0, 8);
        x.write(0, 1, 1);
        x.write(1, 1, 2);
        clashesAre(x, 2, 0, 2, 1, 3, 2, 3, 3);
        targetIs(x, 0, -1, 1, 7, 0);
        targetIs(x, 1, -1, 0, 1, 0);
        targetIs(x, 2, -1, 2, 8, 0);
        targetIs(x, 3, -1, 3, 2, 0);
        Check.is("what is told did not come to be", x.count(3), 2);
        x.sync();
        Check.is("now they did", x.count(3), 4);
        Check.is("a file", x.taken(3, 0), 3);
        Check.is("alike", x.would(3), 1);
        Check.is("in last", x.told(2, 3, 3), 2);
    }

    private static void noRoomForTheOther() {
        TwoTreesAlike x = new TwoTreesAlike();
        for (int i = 0; i < 29; i++) {
            x.make(0, -1, i, 1);
        }
        x.sync();
        x.write(0, 3, 4);
        x.write(1, 3, 5);
        x.write(0, 7, 8);
        x.write(1, 7, 9);
        clashesAre(x, 2, 3, 2, 7, 3, 29);
        targetIs(x, 29, -1, 29, 5, 0);
        x.sync();
        Check.is("thirty", x.count(3), 30);
        Check.is("the first has it", x.told(1, 7, 3), 8);
    }

    private static void ringsAreMended() {
        TwoTreesAlike x = new TwoTreesAlike();
        for (int i = 0; i < 4; i++) {
            x.make(0, -1, i, -1);
        }
        x.sync();
        x.move(0, 0, 1, 5);
        x.move(1, 1, 0, 6);
        x.move(0, 2, 3, 5);
        x.move(1, 3, 2, 6);
        // as they are found; in THE ROOT both are called 6 then
        clashesAre(x, 4, 3, 4, 1, 3, 3);
        targetIs(x, 3, -1, 0, 0, 0);
        targetIs(x, 2, 3, 5, 0, 1);
        targetIs(x, 1, -1, 6, 0, 0);
    }

    private static void ringsWithTails() {
        TwoTreesAlike x = new TwoTreesAlike();
        for (int i = 0; i < 2; i++) {
            x.make(0, -1, i, -1);
        }
        x.make(0, 0, 2, -1);
        x.sync();
        x.move(0, 0, 1, 5);
        x.move(1, 1, 0, 6);
        // thing 2 hangs on the ring, but does not stand in it
        clashesAre(x, 4, 1);
        targetIs(x, 2, 0, 2, 0, 2);
        x.sync();
        Check.is("alike", x.would(3), 1);
    }

    private static void namesAreMended() {
        TwoTreesAlike x = new TwoTreesAlike();
        x.make(0, -1, 4, 1);
        x.make(1, -1, 4, 2);
        x.make(0, -1, 0, 3);
        x.make(1, -1, 1, 4);
        x.make(1, -1, 0, 5);
        clashesAre(x, 3, 1, 3, 4);
        // 0 and 1 are had by others, of greater numbers too
        Check.is("least name", x.target(1, 1), 2);
        Check.is("the next", x.target(4, 1), 3);
        x.prefer(1);
        Check.is("numbers decide, not the first", x.target(1, 1), 2);
        x.sync();
        Check.is("renamed where it was", x.find(1, -1, 2), 1);
    }

    private static void ignoredOnesHoldNames() {
        TwoTreesAlike x = new TwoTreesAlike();
        x.make(0, -1, 9, -1);
        x.sync();
        x.make(0, 0, 1, 5);
        x.make(1, 0, 0, 6);
        x.sync();
        Check.pattern(x, "9/1");
        Check.pattern(x, "9/0");
        x.move(1, 1, -1, 7);
        x.make(1, 0, 1, 8);
        Check.is("the new one is ignored by its name", x.told(1, 3, 8), 1);
        Check.is("and it holds it", x.find(1, 0, 1), 3);
        x.move(1, 3, 0, 5);
        x.move(0, 2, -1, 20);
        // a thing moves on one side to a name which an ignored one has in LAST
        x.make(0, -1, 7, 3);
        Check.is("ignored by last alone", x.told(1, 1, 8), 1);
        clashesAre(x, 3, 4);
        Check.is("least name in the root", x.target(4, 1), 0);
    }

    private static void ignoredStayInLast() {
        TwoTreesAlike x = new TwoTreesAlike();
        x.make(0, -1, 9, -1);
        x.make(0, 0, 1, -1);
        x.make(0, 1, 2, 5);
        x.make(0, -1, 1, 6);
        x.sync();
        Check.pattern(x, "9/1");
        Check.pattern(x, "1");
        x.remove(0, 0);
        x.write(0, 3, 7);
        x.remove(1, 3);
        clashesAre(x, 0, 0);
        x.sync();
        Check.is("ignored stays as it was in last", x.told(2, 3, 3), 6);
        Check.is("and here", x.told(0, 3, 3), 7);
        Check.is("and there", x.told(1, 3, 0), 0);
        Check.is("in a folder that is still there", x.count(2), 4);
        Check.is("alike but for them", x.would(3), 1);
        x.remove(0, 0);
        x.remove(1, 0);
        clashesAre(x);
        Check.is("nothing to do", x.sync(), 0);
        Check.is("its folder is gone, and so are its inner ones", x.count(2), 1);
        Check.is("the root stays", x.told(2, 3, 0), 1);
    }

    private static void comeOnBoth() {
        TwoTreesAlike x = new TwoTreesAlike();
        x.make(0, -1, 9, -1);
        x.make(0, 0, 1, 5);
        x.sync();
        Check.pattern(x, "9/1");
        x.move(0, 1, -1, 3);
        x.move(1, 1, -1, 4);
        x.write(1, 1, 6);
        x.remove(0, 0);
        x.remove(1, 0);
        x.sync();
        Check.is("not in last", x.told(2, 1, 0), 0);
        x.drop();
        Check.is("come here", x.told(0, 1, 6), 1);
        Check.is("come there", x.told(1, 1, 6), 1);
        clashesAre(x);
        targetIs(x, 1, -1, 3, 5, 0);
        x.prefer(1);
        clashesAre(x);
        targetIs(x, 1, -1, 4, 6, 0);
        Check.is("aside, place, write", x.sync(), 3);
    }

    private static void alikeIn() {
        TwoTreesAlike x = new TwoTreesAlike();
        x.make(0, -1, 0, 5);
        x.sync();
        x.write(1, 0, 6);
        Check.is("contents are unlike", x.would(3), 0);
        Check.is("a step at once", x.step(0, 0, 0), 3);
        x.write(1, 0, 5);
        x.move(1, 0, -1, 1);
        Check.is("other steps at once", x.step(0, 0, 0), 0);
        Check.is("names are unlike", x.would(3), 0);
        Check.is("steps at once", x.step(0, 1, 0), 2);
        x.move(1, 0, -1, 0);
        Check.is("alike", x.would(3), 1);
        x.remove(1, 0);
        Check.is("one is there alone", x.would(3), 0);
        x.write(0, 0, 7);
        Check.is("a clash at once", x.clash(0, 0), 0);
        x.write(0, 0, 5);
        Check.is("no clash at once", x.clash(0, 0), -12);
    }

    private static void ignoredWithinIgnored() {
        TwoTreesAlike x = new TwoTreesAlike();
        for (int i = 0; i < 6; i++) {
            x.make(0, -1, i, -1);
        }
        x.sync();
        // on side 0 each stands in the one of the next number, on side 1 and in LAST in THE ROOT
        for (int i = 0; i < 5; i++) {
            x.move(0, i, i + 1, i);
        }
        Check.pattern(x, "5");
        Check.pattern(x, "!5/**/*");
        for (int i = 0; i < 5; i++) {
            Check.is("not ignored by its path", x.told(0, i, 7), 0);
            Check.is("but by its folder", x.told(1, i, 8), 1);
        }
        x.drop();
        x.drop();
        x.sync();
        Check.pattern(x, "5/**/3/*");
        x.remove(0, 5);
        x.remove(1, 5);
        Check.is("nothing to do", x.sync(), 0);
        Check.is("all of them are out of last", x.count(2), 0);
    }

    private static void numberZeroCounts() {
        TwoTreesAlike x = new TwoTreesAlike();
        x.make(0, -1, 0, 5);
        x.make(0, -1, 1, -1);
        x.make(0, 1, 2, 5);
        x.sync();
        x.move(0, 0, 1, 3);
        x.remove(1, 1);
        clashesAre(x, 0, 1);
        Check.is("kept by thing 0", x.target(1, 1), 1);
        x.sync();
        Check.pattern(x, "1/3");
        x.remove(0, 0);
        x.move(1, 0, 1, 4);
        x.make(0, 1, 4, 6);
        Check.is("ignored by last", x.told(0, 0, 8), 1);
        clashesAre(x, 3, 3);
        Check.is("a name that an ignored one has there", x.target(3, 1), 0);
        x.image();
        x.write(0, 3, 7);
        x.sync();
        x.write(0, 3, 8);
        x.write(1, 3, 9);
        x.sync();
        Check.is("one that came is a file", x.taken(4, 0), 4);
        x.back();
        x.make(0, -1, 40, -1);
        x.back();
        x.sync();
        x.write(0, 3, 8);
        x.write(1, 3, 9);
        x.sync();
        Check.is("though its number was a folder's", x.taken(4, 0), 4);
        TwoTreesAlike y = new TwoTreesAlike();
        y.make(0, -1, 0, 5);
        Check.pattern(y, "0");
        y.make(0, -1, 1, 5);
        y.sync();
        y.drop();
        Check.pattern(y, "1");
        clashesAre(y);
        y.move(0, 0, -1, 9);
        y.make(1, -1, 9, -1);
        clashesAre(y, 3, 2);
        y.move(1, 1, -1, 8);
        y.move(0, 0, -1, 8);
        clashesAre(y, 3, 0);
    }

    private static void namesAboveFortyNine() {
        TwoTreesAlike x = new TwoTreesAlike();
        x.make(0, -1, 40, -1);
        x.make(0, -1, 41, -1);
        for (int i = 0; i < 25; i++) {
            x.make(0, 0, i, i);
        }
        x.sync();
        // 25 that are ignored by where they stand on side 1 have 50 names in folder 0, on side 0 and in LAST
        for (int i = 0; i < 25; i++) {
            x.move(0, 2 + i, 0, 25 + i);
            x.move(1, 2 + i, 1, i);
        }
        Check.pattern(x, "41/*");
        x.make(0, 0, 3, 100);
        x.make(1, 0, 30, 101);
        clashesAre(x, 3, 27, 3, 28);
        targetIs(x, 27, 0, 50, 100, 1);
        targetIs(x, 28, 0, 51, 101, 1);
        x.sync();
        Check.is("found", x.find(0, 0, 51), 28);
        Check.is("but no name to be told", x.move(0, 28, 0, 51), -2);
        x.drop();
        Check.pattern(x, "40/51");
        Check.is("a pattern may", x.matches(0, 1, 28), 1);
    }

    private static void planInOrder() {
        TwoTreesAlike x = new TwoTreesAlike();
        x.make(0, -1, 0, -1);
        x.make(0, 0, 1, -1);
        x.make(0, 1, 2, 10);
        x.make(0, 1, 3, 11);
        x.make(0, -1, 4, 12);
        x.sync();
        x.move(0, 2, -1, 2);
        x.move(0, 1, -1, 9);
        x.remove(0, 3);
        x.remove(0, 4);
        x.move(0, 0, 1, 0);
        x.make(0, 0, 7, 13);
        x.make(0, -1, 8, -1);
        x.write(0, 2, 99);
        // side 1: aside 0, 1, 2, 3, 4; place 1, place 2, make 6, place 0, make 5; write 2; remove 4, 3
        int[][] due = {
            {0, 0, -1, 100, -1}, {0, 1, -1, 101, -1}, {0, 2, -1, 102, -1}, {0, 3, -1, 103, -1}, {0, 4, -1, 104, -1},
            {2, 1, -1, 9, -1}, {2, 2, -1, 2, -1}, {1, 6, -1, 8, 0}, {2, 0, 1, 0, -1}, {1, 5, 0, 7, 13},
            {3, 2, -1, -1, 99}, {4, 4, -1, -1, -1}, {4, 3, -1, -1, -1},
        };
        Check.is("steps of side 1", x.would(2), due.length);
        for (int i = 0; i < due.length; i++) {
            stepIs(x, 1, i, due[i]);
        }
        Check.is("behind the last", x.step(1, due.length, 0), -12);
        Check.is("none on side 0", x.would(1), 0);
        Check.is("all of them", x.sync(), due.length);
    }

    private static void refusals() {
        TwoTreesAlike x = new TwoTreesAlike();
        x.make(0, -1, 0, 5);
        x.make(1, -1, 0, 5);
        Check.is("target -1", x.target(-1, 0), -2);
        Check.is("target 30", x.target(30, 0), -2);
        Check.is("target of none", x.target(29, 3), -1);
        Check.is("target what 4", x.target(0, 4), -2);
        Check.is("target what -1", x.target(0, -1), -2);
        Check.is("clash what", x.clash(0, 2), -2);
        Check.is("clash what -1", x.clash(9, -1), -2);
        Check.is("clash", x.clash(0, 0), 3);
        Check.is("clash 1", x.clash(1, 0), -12);
        Check.is("clash -1", x.clash(-1, 0), -12);
        Check.is("step side", x.step(2, 0, 0), -2);
        Check.is("step side -1", x.step(-1, 0, 0), -2);
        Check.is("step what", x.step(0, 99, 5), -2);
        Check.is("step what -1", x.step(0, 0, -1), -2);
        Check.is("step -1", x.step(0, -1, 0), -12);
        Check.is("would 4", x.would(4), -2);
        Check.is("would -1", x.would(-1), -2);
    }
}
