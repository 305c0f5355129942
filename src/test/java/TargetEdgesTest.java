/** TARGET's rules (1) to (5) at their edges, each on both SIDES, and the order of CLASHES. */
public final class TargetEdgesTest {
    public static void main(String[] args) {
        for (int side = 0; side < 2; side++) {
            whoIsThere(side);
            goneOnOneAlone(side);
            keptByItself(side);
            keptByInnerOnes(side);
            keptByIgnoredOnes(side);
            notKeptByOthers(side);
            placeOfOneMoved(side);
            placeOfBothMoved(side);
            placeOfOneKept(side);
            contentOfOneWritten(side);
            contentOfBothWritten(side);
            theNewOneStandsBeside(side);
            roomForNewOnes(side);
            ringOfThree(side);
            ringsInTheRoot(side);
            namesByNumbers(side);
            namesInOneFolderAlone(side);
            theLeastName(side);
            namesThatIgnoredOnesHave(side);
            comeOnBothSides(side);
            preferAsItIsNow(side);
        }
        theThirtiethHasAName();
        theLongestRing();
        mostRings();
        namesAtFortyNine();
        namesAboveSixty();
        clashesInOrder();
        mostClashes();
        Check.end("TargetEdgesTest");
    }

    /** FOLDERS 0, 4 and FILE 3 in THE ROOT, FOLDER 1 in 0, FILE 2 in 1; NAMES are 10 more than numbers. */
    private static TwoTreesAlike base() {
        TwoTreesAlike x = new TwoTreesAlike();
        x.make(0, -1, 10, -1);
        x.make(0, 0, 11, -1);
        x.make(0, 1, 12, 5);
        x.make(0, -1, 13, 6);
        x.make(0, -1, 14, -1);
        x.sync();
        return x;
    }

    private static void clashesAre(String what, TwoTreesAlike x, int... kindsAndThings) {
        int n = kindsAndThings.length / 2;
        Check.is(what + ": clashes", x.would(0), n);
        for (int i = 0; i < n; i++) {
            Check.is(what + ": kind of " + i, x.clash(i, 0), kindsAndThings[2 * i]);
            Check.is(what + ": thing of " + i, x.clash(i, 1), kindsAndThings[2 * i + 1]);
        }
        Check.is(what + ": no more", x.clash(n, 0), -12);
    }

    private static void targetIs(String what, TwoTreesAlike x, int thing, int folder, int name, int content) {
        Check.is(what + ": folder of " + thing, x.target(thing, 0), folder);
        Check.is(what + ": name of " + thing, x.target(thing, 1), name);
        Check.is(what + ": content of " + thing, x.target(thing, 2), content);
    }

    /** Who is in TARGET, of the five of base(), and behind them: a digit 1 for each that is. */
    private static void thereAre(String what, TwoTreesAlike x, String due) {
        StringBuilder is = new StringBuilder();
        for (int thing = 0; thing < due.length(); thing++) {
            is.append(x.target(thing, 2) == -1 ? 0 : 1);
            boolean isSo = x.target(thing, 3) != -1 && x.target(thing, 1) != -1;
            Check.is(what + ": it is there or not, " + thing, x.target(thing, 2) != -1 ? 1 : 0, isSo ? 1 : 0);
        }
        Check.holds(what + ": there are " + is + ", due is " + due, is.toString().equals(due));
    }

    /** "A THING that is COME on a SIDE is there, and one in LAST that is GONE on neither; who is GONE on both isn't." */
    private static void whoIsThere(int side) {
        TwoTreesAlike x = base();
        x.make(side, 0, 15, 7);
        x.make(side, -1, 16, -1);
        thereAre("come", x, "11111110");
        targetIs("come", x, 5, 0, 15, 7);
        targetIs("come", x, 6, -1, 16, 0);
        targetIs("in last", x, 2, 1, 12, 5);
        x.remove(side, 3);
        x.remove(1 - side, 3);
        x.remove(1 - side, 1);
        x.remove(side, 1);
        thereAre("gone on both", x, "10001110");
        x.remove(side, 5);
        thereAre("come and removed", x, "10001010");
        clashesAre("no clash by that", x);
    }

    /** "One that is GONE on one alone is there, if ..; else it isn't." */
    private static void goneOnOneAlone(int side) {
        TwoTreesAlike x = base();
        x.remove(side, 3);
        x.remove(side, 0);
        thereAre("gone", x, "00001");
        clashesAre("gone", x);
        Check.is("nothing to do there", x.would(1 + side), 0);
        Check.is("all goes on the other side", x.would(2 - side), 8);
    }

    /** "if on the other SIDE it is MOVED or WRITTEN: CLASH 0 KEPT". */
    private static void keptByItself(int side) {
        int other = 1 - side;
        TwoTreesAlike x = base();
        x.remove(side, 3);
        x.move(other, 3, -1, 30);
        clashesAre("another name", x, 0, 3);
        x.move(other, 3, 0, 13);
        clashesAre("another folder", x, 0, 3);
        x.move(other, 3, -1, 13);
        clashesAre("where it was", x);
        x.write(other, 3, 7);
        clashesAre("written", x, 0, 3);
        thereAre("written", x, "11111");
        x.write(other, 3, 6);
        clashesAre("as it was", x);
        thereAre("as it was", x, "11101");
        x.remove(side, 4);
        x.move(other, 4, 0, 14);
        clashesAre("a folder, moved", x, 0, 4);
        x.move(other, 3, -1, 29);
        clashesAre("both, by numbers", x, 0, 3, 0, 4);
    }

    /** "or an INNER one of it there is COME, MOVED, WRITTEN there". */
    private static void keptByInnerOnes(int side) {
        int other = 1 - side;
        TwoTreesAlike x = base();
        x.remove(side, 0);
        x.make(other, 0, 15, 7);
        clashesAre("one that came in it", x, 0, 0);
        thereAre("one that came in it", x, "100111");
        x.move(other, 5, 1, 15);
        clashesAre("one that came in one in it", x, 0, 0, 0, 1);
        thereAre("one that came in one in it", x, "110111");
        x.remove(other, 5);
        clashesAre("none any longer", x);
        x.move(other, 2, 1, 30);
        clashesAre("moved within", x, 0, 0, 0, 1, 0, 2);
        x.move(other, 2, 0, 12);
        clashesAre("moved up", x, 0, 0, 0, 2);
        x.move(other, 2, -1, 12);
        clashesAre("moved out", x, 0, 2);
        x.move(other, 2, 1, 12);
        x.write(other, 2, 7);
        clashesAre("written", x, 0, 0, 0, 1, 0, 2);
        x.write(other, 2, 5);
        x.move(other, 3, 0, 13);
        clashesAre("moved into", x, 0, 0);
        thereAre("moved into", x, "10011");
        x.move(other, 3, 1, 13);
        clashesAre("moved deep into", x, 0, 0, 0, 1);
        x.move(other, 1, 4, 11);
        clashesAre("its folder moved out", x, 0, 1);
        thereAre("its folder moved out", x, "01011");
    }

    /** "or IGNORED at all". */
    private static void keptByIgnoredOnes(int side) {
        int other = 1 - side;
        TwoTreesAlike x = base();
        x.remove(side, 0);
        Check.pattern(x, "10/11/12");
        clashesAre("ignored", x, 0, 0, 0, 1);
        thereAre("ignored", x, "11011");
        x.move(other, 2, 0, 12);
        Check.is("not ignored there", x.told(other, 2, 7), 0);
        clashesAre("ignored at all", x, 0, 0);
        x.move(other, 2, -1, 12);
        clashesAre("not in it", x);
        x.drop();
        Check.pattern(x, "10/11");
        x.move(other, 2, 1, 12);
        clashesAre("a folder that is ignored", x, 0, 0);
        thereAre("a folder that is ignored", x, "10011");
    }

    /** What is unchanged in it, what changed on the SIDE where it is gone, or beside it, does not keep it. */
    private static void notKeptByOthers(int side) {
        int other = 1 - side;
        TwoTreesAlike x = base();
        x.move(side, 2, -1, 12);
        x.write(side, 2, 8);
        x.remove(side, 0);
        x.write(other, 3, 7);
        x.make(other, 4, 0, 1);
        clashesAre("not kept", x);
        thereAre("not kept", x, "001111");
        targetIs("moved out there", x, 2, -1, 12, 8);
        x.remove(other, 2);
        clashesAre("gone here, changed there", x, 0, 2);
        thereAre("gone here, changed there", x, "001111");
    }

    /** "as on the SIDE on which it is MOVED; .. on none: as in LAST". */
    private static void placeOfOneMoved(int side) {
        TwoTreesAlike x = base();
        targetIs("on none", x, 2, 1, 12, 5);
        x.move(side, 2, 1, 30);
        targetIs("another name", x, 2, 1, 30, 5);
        x.move(side, 2, 0, 12);
        targetIs("another folder", x, 2, 0, 12, 5);
        x.move(side, 2, -1, 49);
        targetIs("to the root", x, 2, -1, 49, 5);
        x.move(side, 3, 0, 0);
        targetIs("into a folder", x, 3, 0, 0, 6);
        x.write(1 - side, 2, 9);
        targetIs("moved here, written there", x, 2, -1, 49, 9);
        x.prefer(1 - side);
        targetIs("whatever is preferred", x, 2, -1, 49, 9);
        Check.is("its depth", x.target(3, 3), 1);
        clashesAre("no clash by that", x);
        x.move(side, 0, 4, 10);
        Check.is("as deep as its folders", x.target(3, 3), 2);
    }

    /** "MOVED on both, and not alike: as on THE FIRST (CLASH 1 PLACE)". */
    private static void placeOfBothMoved(int side) {
        TwoTreesAlike x = base();
        x.prefer(side);
        x.move(0, 2, 4, 30);
        x.move(1, 2, 4, 30);
        clashesAre("alike", x);
        targetIs("alike", x, 2, 4, 30, 5);
        x.move(0, 2, 4, 31);
        clashesAre("unlike by name", x, 1, 2);
        targetIs("unlike by name", x, 2, 4, side == 0 ? 31 : 30, 5);
        x.move(0, 2, 0, 30);
        clashesAre("unlike by folder", x, 1, 2);
        targetIs("unlike by folder", x, 2, side == 0 ? 0 : 4, 30, 5);
        x.write(1 - side, 2, 9);
        targetIs("place and content", x, 2, side == 0 ? 0 : 4, 30, 9);
        x.move(1 - side, 2, 1, 12);
        clashesAre("moved back there", x);
        targetIs("moved back there", x, 2, side == 0 ? 0 : 4, 30, 9);
    }

    /** "of one that is COME or KEPT: as on the SIDE where it is", CONTENT too. */
    private static void placeOfOneKept(int side) {
        int other = 1 - side;
        for (int first = 0; first < 2; first++) {
            TwoTreesAlike x = base();
            x.prefer(first);
            x.remove(side, 3);
            x.move(other, 3, 1, 30);
            targetIs("kept, moved", x, 3, 1, 30, 6);
            x.write(other, 3, 7);
            targetIs("kept, moved and written", x, 3, 1, 30, 7);
            x.move(other, 3, -1, 13);
            targetIs("kept, written", x, 3, -1, 13, 7);
            x.make(other, 1, 0, 999);
            targetIs("come", x, 5, 1, 0, 999);
            x.remove(side, 0);
            targetIs("kept by an inner one", x, 1, 0, 11, 0);
            targetIs("and its folder", x, 0, -1, 10, 0);
            clashesAre("kept", x, 0, 0, 0, 1, 0, 3);
        }
    }

    /** "as on the SIDE on which it is WRITTEN; .. on none: as where it is". */
    private static void contentOfOneWritten(int side) {
        for (int first = 0; first < 2; first++) {
            TwoTreesAlike x = base();
            x.prefer(first);
            targetIs("on none", x, 2, 1, 12, 5);
            x.write(side, 2, 0);
            targetIs("written", x, 2, 1, 12, 0);
            x.write(side, 2, 999);
            targetIs("written again", x, 2, 1, 12, 999);
            x.move(1 - side, 2, -1, 0);
            targetIs("moved there", x, 2, -1, 0, 999);
            clashesAre("no clash by that", x);
            x.write(side, 2, 5);
            targetIs("as it was", x, 2, -1, 0, 5);
        }
    }

    /** "on both, and not alike: as on THE FIRST (CLASH 2 CONTENT), and a new THING, a FILE, comes". */
    private static void contentOfBothWritten(int side) {
        TwoTreesAlike x = base();
        x.prefer(side);
        x.write(0, 2, 7);
        x.write(1, 2, 7);
        clashesAre("alike", x);
        thereAre("alike", x, "111110");
        x.write(side, 2, 8);
        clashesAre("unlike", x, 2, 2, 3, 5);
        targetIs("unlike", x, 2, 1, 12, 8);
        targetIs("the new one", x, 5, 1, 0, 7);
        thereAre("no other one", x, "1111110");
        Check.is("not yet", x.count(3), 5);
        x.write(1 - side, 2, 5);
        clashesAre("as it was there", x);
        x.write(1 - side, 2, 0);
        x.write(0, 3, side == 0 ? 3 : 4);
        x.write(1, 3, side == 0 ? 4 : 3);
        clashesAre("by numbers", x, 2, 2, 2, 3, 3, 5, 3, 6);
        targetIs("the first of the new ones", x, 5, 1, 0, 0);
        targetIs("the second", x, 6, -1, 0, 4);
        targetIs("the second's twin", x, 3, -1, 13, 3);
        Check.is("made on both, and written on one", x.sync(), 2 * 2 + 2);
        for (int k = 0; k < 2; k++) {
            Check.is("it is a file", x.taken(5, 0), 5);
            Check.is("it is there", x.told(k, 6, 3), 4);
        }
    }

    /** "into the same FOLDER under the same NAME": as TARGET has it by (2). */
    private static void theNewOneStandsBeside(int side) {
        TwoTreesAlike x = base();
        x.prefer(side);
        x.write(0, 3, 7);
        x.write(1, 3, 8);
        x.move(1 - side, 3, 0, 0);
        clashesAre("moved there", x, 2, 3, 3, 5);
        targetIs("moved there", x, 3, 0, 0, side == 0 ? 7 : 8);
        targetIs("beside", x, 5, 0, 1, side == 0 ? 8 : 7);
        x.move(side, 2, -1, 12);
        x.move(side, 3, 1, 12);
        clashesAre("moved on both", x, 1, 3, 2, 3, 3, 5);
        targetIs("moved on both", x, 3, 1, 12, side == 0 ? 7 : 8);
        targetIs("beside it", x, 5, 1, 0, side == 0 ? 8 : 7);
    }

    private static TwoTreesAlike withFiles(int n) {
        TwoTreesAlike x = new TwoTreesAlike();
        for (int i = 0; i < n; i++) {
            x.make(i % 2, -1, 10 + i, i);
        }
        x.sync();
        return x;
    }

    /** "if there's no room for THINGS, none comes". */
    private static void roomForNewOnes(int side) {
        for (int n = 28; n <= 30; n++) {
            TwoTreesAlike x = withFiles(n);
            x.prefer(side);
            for (int thing = 0; thing < 30; thing += 9) {
                x.write(0, thing, 100 + thing);
                x.write(1, thing, 200 + thing);
            }
            int[][] due = {
                {2, 0, 2, 9, 2, 18, 2, 27, 3, 28, 3, 29}, {2, 0, 2, 9, 2, 18, 2, 27, 3, 29}, {2, 0, 2, 9, 2, 18, 2, 27},
            };
            clashesAre("of " + n, x, due[n - 28]);
            for (int k = 0; k < 30 - n; k++) {
                targetIs("the new one", x, n + k, -1, k, 9 * k + (side == 0 ? 200 : 100));
            }
            targetIs("one whose other does not come", x, 27, -1, 37, 27 + (side == 0 ? 100 : 200));
            Check.is("target 30", x.target(30, 0), -2);
            Check.is("written and made", x.sync(), 4 + 2 * (30 - n));
            Check.is("thirty", x.count(3), 30);
            Check.is("on both sides", x.count(0) + x.count(1), 60);
            Check.is("alike", x.would(3), 1);
        }
    }

    /** "of all that stand in rings that one of the greatest number goes to THE ROOT (CLASH 4 RING)". */
    private static void ringOfThree(int side) {
        TwoTreesAlike x = new TwoTreesAlike();
        for (int i = 0; i < 5; i++) {
            x.make(0, -1, 10 + i, -1);
        }
        x.sync();
        int other = 1 - side;
        x.move(side, 1, 2, 20);
        x.move(other, 2, 0, 21);
        x.move(other, 0, 4, 22);
        x.move(side, 4, 1, 23);
        x.move(side, 3, 4, 24);
        // 1 in 2, 2 in 0, 0 in 4, 4 in 1; 3 hangs on it
        clashesAre("a ring of four", x, 4, 4);
        targetIs("the greatest", x, 4, -1, 23, 0);
        targetIs("the others stay", x, 2, 0, 21, 0);
        targetIs("the others stay", x, 0, 4, 22, 0);
        targetIs("what hangs on it", x, 3, 4, 24, 0);
        Check.is("the deepest", x.target(1, 3), 3);
        x.move(side, 4, -1, 14);
        clashesAre("no ring", x);
        Check.is("no ring, as deep", x.target(1, 3), 3);
        x.sync();
        Check.is("alike", x.would(3), 1);
    }

    /** One that goes to THE ROOT by (4) has its NAME, until (5). */
    private static void ringsInTheRoot(int side) {
        TwoTreesAlike x = new TwoTreesAlike();
        for (int i = 0; i < 4; i++) {
            x.make(0, -1, 10 + i, -1);
        }
        x.sync();
        x.move(side, 1, 2, 10);
        x.move(1 - side, 2, 1, 13);
        clashesAre("named as 3 is", x, 4, 2, 3, 3);
        targetIs("the lesser number has it", x, 2, -1, 13, 0);
        targetIs("the greater has not", x, 3, -1, 0, 0);
        x.move(1 - side, 2, 1, 10);
        clashesAre("named as 0 is", x, 4, 2, 3, 2);
        targetIs("the ring's name", x, 2, -1, 0, 0);
        targetIs("not in the root", x, 1, 2, 10, 0);
    }

    private static void theLongestRing() {
        TwoTreesAlike x = new TwoTreesAlike();
        for (int i = 0; i < 30; i++) {
            x.make(0, -1, i, -1);
        }
        x.sync();
        for (int i = 0; i < 30; i++) {
            Check.is("it may", x.move(i % 2, i, (i + 1) % 30, 49), 1);
        }
        clashesAre("a ring of thirty", x, 4, 29);
        for (int i = 0; i < 30; i++) {
            targetIs("of thirty", x, i, i == 29 ? -1 : i + 1, 49, 0);
            Check.is("how deep", x.target(i, 3), 29 - i);
        }
        // 30 are aside, made or placed anew: each side lacks 15 moves
        Check.is("steps", x.sync(), 2 * 15 * 2 + 2);
        Check.is("alike", x.would(3), 1);
        Check.is("the deepest", x.told(1, 0, 5), 29);
    }

    /** "RINGS as they are found": of all that are left the one of the greatest number. */
    private static void mostRings() {
        TwoTreesAlike x = new TwoTreesAlike();
        for (int i = 0; i < 30; i++) {
            x.make(0, -1, i, -1);
        }
        x.sync();
        for (int i = 0; i < 15; i++) {
            x.move(0, i, 29 - i, 0);
            x.move(1, 29 - i, i, 20 + i);
        }
        int[] due = new int[30];
        for (int i = 0; i < 15; i++) {
            due[2 * i] = 4;
            due[2 * i + 1] = 29 - i;
        }
        clashesAre("fifteen rings", x, due);
    }

    /** "if one of a lesser number of TARGET stands in the same FOLDER under the same NAME". */
    private static void namesByNumbers(int side) {
        for (int first = 0; first < 2; first++) {
            TwoTreesAlike x = base();
            x.prefer(first);
            x.make(side, -1, 30, 1);
            x.make(1 - side, -1, 30, 2);
            clashesAre("both came", x, 3, 6);
            targetIs("the lesser number", x, 5, -1, 30, 1);
            targetIs("the greater number", x, 6, -1, 0, 2);
            x.move(1 - side, 3, -1, 30);
            Check.is("it is taken there", x.latest(0), -6);
            x.move(side, 5, -1, 31);
            clashesAre("other names", x);
            x.move(side, 3, -1, 30);
            clashesAre("moved and came", x, 3, 6);
            x.move(side, 4, -1, 11);
            x.move(1 - side, 6, 4, 30);
            clashesAre("in the root and in a folder", x);
            x.move(1 - side, 0, -1, 11);
            clashesAre("two that moved", x, 3, 4);
            targetIs("two that moved", x, 4, -1, 0, 0);
        }
    }

    private static void namesInOneFolderAlone(int side) {
        TwoTreesAlike x = base();
        x.make(side, 0, 30, 1);
        x.make(1 - side, 1, 30, 2);
        x.make(1 - side, -1, 30, 3);
        clashesAre("in three folders", x);
        x.make(1 - side, 0, 30, 4);
        clashesAre("in one", x, 3, 8);
        targetIs("in one", x, 8, 0, 0, 4);
        x.remove(side, 3);
        x.make(side, -1, 13, 5);
        clashesAre("the name of one that is gone", x, 3, 8);
        x.write(1 - side, 3, 7);
        clashesAre("the name of one that is kept", x, 0, 3, 3, 8, 3, 9);
    }

    /** "it gets the least NAME that none of TARGET's .. has there". */
    private static void theLeastName(int side) {
        TwoTreesAlike x = base();
        int other = 1 - side;
        x.make(side, 0, 30, 1);
        x.make(other, 0, 30, 2);
        targetIs("0", x, 6, 0, 0, 2);
        x.make(other, 0, 0, 3);
        targetIs("0 is had by a greater number", x, 6, 0, 1, 2);
        x.make(side, 0, 1, 3);
        x.make(side, 0, 3, 3);
        targetIs("a gap", x, 6, 0, 2, 2);
        x.make(side, 0, 2, 3);
        targetIs("behind all", x, 6, 0, 4, 2);
        x.move(side, 9, -1, 2);
        targetIs("what is elsewhere does not count", x, 6, 0, 3, 2);
        x.remove(other, 7);
        targetIs("0 again", x, 6, 0, 0, 2);
        x.make(other, 0, 1, 5);
        clashesAre("two that are mended", x, 3, 6, 3, 11);
        targetIs("the first of them", x, 6, 0, 0, 2);
        targetIs("the second", x, 11, 0, 3, 5);
    }

    /** "or one that is IGNORED at all does so on a SIDE or in LAST", "nor any IGNORED one has there". */
    private static void namesThatIgnoredOnesHave(int side) {
        int other = 1 - side;
        for (int tree = 0; tree < 3; tree++) {
            TwoTreesAlike x = base();
            if (tree == 2) {
                x.move(0, 2, 0, 30);
                x.move(1, 2, 0, 30);
                x.sync();
                x.move(side, 2, 4, 12);
                x.move(other, 2, 4, 12);
            } else {
                x.move(tree, 2, 0, 30);
                x.move(1 - tree, 2, 4, 12);
            }
            Check.pattern(x, "14/12");
            Check.is("ignored at all, by another place", x.told(tree, 2, 8), 1);
            Check.is("but not there", x.told(tree, 2, 7), 0);
            x.make(tree == side ? other : side, 0, 30, 7);
            clashesAre("a name that it has in " + tree, x, 3, 5);
            targetIs("the least name", x, 5, 0, 0, 7);
            x.move(tree == side ? other : side, 5, 0, 31);
            clashesAre("another name", x);
            x.move(tree == side ? other : side, 5, -1, 30);
            clashesAre("another folder", x);
            x.move(tree == side ? other : side, 5, 0, 30);
            x.make(tree == side ? other : side, 0, 0, 8);
            targetIs("the next", x, 5, 0, 1, 7);
        }
    }

    private static void theThirtiethHasAName() {
        TwoTreesAlike x = withFiles(30);
        x.move(0, 29, -1, 49);
        Check.pattern(x, "49");
        x.move(0, 3, -1, 39);
        clashesAre("the name of the thirtieth, which is ignored", x, 3, 3);
        targetIs("the least name", x, 3, -1, 0, 3);
        x.move(0, 3, -1, 13);
        x.move(0, 0, -1, 0);
        x.move(1, 29, -1, 0);
        clashesAre("on side 1", x, 3, 0);
        targetIs("the next", x, 0, -1, 1, 0);
    }

    /** "THE FIRST is the SIDE that PREFER tells": now, whatever it was when AN IMAGE was kept or thought was taken. */
    private static void preferAsItIsNow(int side) {
        int other = 1 - side;
        TwoTreesAlike x = base();
        x.prefer(other);
        x.image();
        x.drawn(0, 0);
        x.prefer(side);
        x.move(side, 2, 4, 40);
        x.move(other, 2, -1, 20);
        x.move(other, 3, 4, 40);
        x.write(side, 3, 7);
        x.write(other, 3, 8);
        clashesAre("by it", x, 1, 2, 2, 3, 3, 3, 3, 5);
        targetIs("by it", x, 2, 4, 40, 5);
        targetIs("by it", x, 3, 4, 0, 7);
        targetIs("by it", x, 5, 4, 1, 8);
        Check.is("its steps", x.step(side, 0, 1), 3);
        Check.is("the other's steps", x.step(other, 0, 1), 2);
        Check.is("spared here", x.spared(side, 3), 2);
        Check.is("spared there", x.spared(other, 3), 2);
        Check.is("drawn", x.drawn(7, 0), 4);
        Check.is("how many steps here", x.would(1 + side), 3);
        Check.is("how many steps there", x.would(1 + other), 6);
        x.prefer(other);
        clashesAre("by the other", x, 1, 2, 2, 3, 3, 5);
        targetIs("by the other", x, 2, -1, 20, 5);
        targetIs("by the other", x, 3, 4, 40, 8);
        targetIs("by the other", x, 5, 4, 0, 7);
        Check.is("by the other, its steps", x.step(side, 0, 1), 2);
        Check.is("by the other, spared here", x.spared(side, 3), 2);
        Check.is("by the other, drawn", x.drawn(7, 0), 3);
        x.prefer(side);
        Check.is("steps", x.sync(), 9);
        Check.is("by it, done", x.told(other, 2, 2), 40);
    }

    /** "(COME on both: as on THE FIRST, CONTENT too, and no CLASH by that)". */
    private static void comeOnBothSides(int side) {
        TwoTreesAlike x = base();
        // 2 is ignored in LAST while its folders go, so it is out of LAST, but on both SIDES
        Check.pattern(x, "10/11/12");
        x.move(0, 2, -1, 30);
        x.move(1, 2, -1, 31);
        x.remove(0, 0);
        x.remove(1, 0);
        x.sync();
        x.drop();
        Check.is("come on 0", x.told(0, 2, 6), 1);
        Check.is("come on 1", x.told(1, 2, 6), 1);
        x.write(1, 2, 8);
        x.prefer(side);
        clashesAre("no clash", x);
        targetIs("as on the first", x, 2, -1, 30 + side, side == 0 ? 5 : 8);
        thereAre("no other one came", x, "001110");
        x.move(1, 2, -1, 30);
        x.write(1, 2, 5);
        clashesAre("alike", x);
        Check.is("alike", x.would(3), 1);
        Check.is("not in last yet", x.count(2), 2);
        Check.is("nothing to do", x.sync(), 0);
        Check.is("in last", x.told(2, 2, 3), 5);
    }

    /** "(CLASH 3 NAME; it may be above 49)": NAMES 0 .. n - 1 are had in FOLDER 0. */
    private static TwoTreesAlike namesHad(int n) {
        TwoTreesAlike x = new TwoTreesAlike();
        x.make(0, -1, 10, -1);
        x.make(0, -1, 11, -1);
        int files = (n + 1) / 2;
        for (int i = 0; i < files; i++) {
            x.make(0, 0, i, i);
        }
        x.sync();
        // on SIDE 0 they have other names; on SIDE 1 they are in FOLDER 1, and ignored by that
        for (int i = 0; i < files; i++) {
            x.move(1, 2 + i, 1, i);
            if (files + i < n) {
                x.move(0, 2 + i, 0, files + i);
            }
        }
        Check.pattern(x, "11/*");
        x.make(1, 0, 0, 900);
        return x;
    }

    private static void namesAtFortyNine() {
        for (int n = 48; n <= 51; n++) {
            TwoTreesAlike x = namesHad(n > 50 ? 50 : n);
            int thing = x.count(3) - 1;
            if (n == 51) {
                x.make(1, 0, 1, 901);
            }
            clashesAre("name " + n, x, n == 51 ? new int[] {3, thing, 3, thing + 1} : new int[] {3, thing});
            targetIs("name " + n, x, thing, 0, Math.min(n, 50), 900);
            if (n == 51) {
                targetIs("the next", x, thing + 1, 0, 51, 901);
            }
            x.sync();
            Check.is("it is called so", x.told(0, thing, 2), Math.min(n, 50));
            Check.is("in last, too", x.told(2, thing, 2), Math.min(n, 50));
            Check.is("found", x.find(1, 0, Math.min(n, 50)), thing);
        }
    }

    /** IGNORED are all in THE ROOT but those under 0 .. 4; each of 17 has another NAME in each of the trees. */
    private static void namesAboveSixty() {
        TwoTreesAlike x = withFiles(17);
        for (int i = 0; i < 17; i++) {
            x.move(0, i, -1, i < 10 ? i : 40 + i - 10);
        }
        for (String pattern : new String[] {"*", "!0", "!1", "!2", "!3", "!4"}) {
            Check.pattern(x, pattern);
        }
        // LAST has 10 .. 26, SIDE 0 has 0 .. 9 and 40 .. 46; now SIDE 1 has 27 .. 39, 47, 48, 49
        for (int i = 0; i < 16; i++) {
            Check.is("a name", x.move(1, i, -1, i < 13 ? 27 + i : 47 + i - 13), 1);
        }
        for (int i = 0; i < 5; i++) {
            Check.is("come", x.make(1, -1, i, 1), 17 + i);
        }
        clashesAre("all names are had", x, 3, 17, 3, 18, 3, 19, 3, 20, 3, 21);
        targetIs("the fifth", x, 21, -1, 54, 1);
        for (int round = 0; round < 2; round++) {
            x.sync();
            for (int i = 0; i < 4; i++) {
                Check.is("come", x.make(1, -1, i, 2), 22 + 4 * round + i);
            }
        }
        clashesAre("thirty things", x, 3, 26, 3, 27, 3, 28, 3, 29);
        targetIs("the twelfth", x, 28, -1, 61, 2);
        targetIs("the last", x, 29, -1, 62, 2);
        x.sync();
        Check.is("found", x.find(0, -1, 62), 29);
        Check.is("and ignored by that name", x.told(0, 29, 8), 1);
    }

    /** "CLASHES are in order of (1) to (5), in each by numbers of THINGS (RINGS as they are found)." */
    private static void clashesInOrder() {
        TwoTreesAlike x = new TwoTreesAlike();
        for (int i = 0; i < 10; i++) {
            x.make(0, -1, 10 + i, i < 4 ? -1 : i);
        }
        x.sync();
        for (int k = 0; k < 4; k += 2) {
            x.move(0, k, k + 1, 30 + k);
            x.move(1, k + 1, k, 31 + k);
        }
        for (int k = 0; k < 2; k++) {
            x.write(0, 5 - k, 100);
            x.write(1, 5 - k, 101);
            x.move(0, 7 - k, -1, 40 + k);
            x.move(1, 7 - k, -1, 42 + k);
            x.remove(k, 9 - k);
            x.write(1 - k, 9 - k, 102);
        }
        clashesAre("all kinds", x, 0, 8, 0, 9, 1, 6, 1, 7, 2, 4, 2, 5, 4, 3, 4, 1, 3, 10, 3, 11);
        Check.is("the other way", x.prefer(1), 0);
        clashesAre("all kinds again", x, 0, 8, 0, 9, 1, 6, 1, 7, 2, 4, 2, 5, 4, 3, 4, 1, 3, 10, 3, 11);
    }

    /** Each of thirty FILES by PLACE and by CONTENT; each of thirty FOLDERS by being KEPT. */
    private static void mostClashes() {
        TwoTreesAlike x = withFiles(30);
        int[] due = new int[120];
        for (int i = 0; i < 30; i++) {
            x.write(0, i, 100);
            x.write(1, i, 101);
            Check.is("up", x.move(0, 29 - i, -1, 40 - i), 1);
            Check.is("down", x.move(1, i, -1, 9 + i), 1);
            due[2 * i] = 1;
            due[60 + 2 * i] = 2;
            due[2 * i + 1] = i;
            due[60 + 2 * i + 1] = i;
        }
        clashesAre("thirty files", x, due);
        Check.is("aside, placed and written", x.would(2), 90);
        Check.is("the last one", x.step(1, 89, 1), 29);
        Check.is("on one side", x.sync(), 90);
        TwoTreesAlike y = new TwoTreesAlike();
        for (int i = 0; i < 30; i++) {
            y.make(0, i - 1, 0, -1);
        }
        y.sync();
        y.remove(1, 0);
        int[] kept = new int[60];
        for (int i = 0; i < 30; i++) {
            y.move(0, i, i - 1, 1);
            kept[2 * i + 1] = i;
        }
        clashesAre("thirty folders", y, kept);
        Check.is("all are made", y.would(2), 30);
        Check.is("and nothing is left to do", y.sync() - 30, y.would(1));
    }
}
