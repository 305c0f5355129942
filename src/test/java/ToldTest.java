/** Promises 23 to 27: what was told, and images. */
public final class ToldTest {
    public static void main(String[] args) {
        tellsFirstAndWhere();
        tellsOfTargets();
        tellsRefuses();
        filmTells();
        imageAndBack();
        imageKeepsPatterns();
        imageKeepsLatest();
        countCounts();
        Check.end("ToldTest");
    }

    private static void tellsFirstAndWhere() {
        TwoTreesAlike x = new TwoTreesAlike();
        x.make(0, -1, 1, 5);
        x.make(0, -1, 2, -1);
        x.make(1, -1, 3, 7);
        x.sheet(0, 0, 4);
        x.cell(0, 0, 5);
        x.cell(0, 2, -1);
        x.cell(0, 3, -1);
        Check.is("side 0", x.tells(0, 0, 0), -1);
        Check.is("side 1", x.tells(0, 1, 0), 0);
        Check.is("last", x.tells(0, 2, 0), 0);
        Check.is("where", x.tells(0, 0, 1), 1);
        x.cell(0, 2, 7);
        Check.is("side 0 now", x.tells(0, 0, 0), 2);
        Check.is("where now", x.tells(0, 2, 1), 8 + 16);
        x.sync();
        Check.is("all", x.tells(0, 0, 1), 31);
        x.cell(0, 3, 0);
        Check.is("one that never was", x.tells(0, 0, 0), 3);
        x.sheet(0, 1, 0);
        Check.is("none told", x.tells(0, 0, 0), -1);
        Check.is("everywhere", x.tells(0, 0, 1), 31);
    }

    private static void tellsOfTargets() {
        TwoTreesAlike x = new TwoTreesAlike();
        x.make(0, -1, 1, 5);
        x.make(0, -1, 2, 6);
        x.sync();
        x.write(0, 0, 7);
        x.write(1, 0, 8);
        x.sheet(2, 1, 3);
        x.cell(2, 0, 7);
        x.cell(2, 1, 6);
        x.cell(2, 2, 8);
        Check.is("target by prefer 0", x.tells(2, 0, 1), 8);
        x.cell(2, 0, 8);
        x.cell(2, 2, 7);
        Check.is("target by prefer 1", x.tells(2, 0, 1), 16);
        x.prefer(1);
        Check.is("whatever is preferred", x.tells(2, 0, 1), 16);
        x.sheet(2, 1, 2);
        x.cell(2, 0, 8);
        x.cell(2, 1, 6);
        Check.is("side 1 and target", x.tells(2, 0, 1), 2 + 16);
        Check.pattern(x, "1");
        Check.is("ignored is not in target", x.tells(2, 0, 1), 2);
        x.cell(2, 0, -1);
        Check.is("so none is told of it", x.tells(2, 0, 1), 8 + 16);
    }

    private static void tellsRefuses() {
        TwoTreesAlike x = new TwoTreesAlike();
        Check.is("sheet", x.tells(4, 0, 0), -2);
        Check.is("sheet -1", x.tells(-1, 0, 0), -2);
        Check.is("side", x.tells(0, 3, 0), -2);
        Check.is("what", x.tells(0, 0, 2), -2);
        Check.is("missing", x.tells(0, 0, 0), -11);
        x.sheet(0, 1, 30);
        Check.is("30", x.tells(0, 0, 0), 0);
        x.sheet(0, 1, 31);
        Check.is("31", x.tells(0, 0, 0), -2);
    }

    private static void filmTells() {
        TwoTreesAlike x = new TwoTreesAlike();
        x.make(0, -1, 1, 5);
        x.make(0, -1, 2, -1);
        x.make(1, -1, 3, 999);
        Check.is("30", x.film(1, 1, 30), 30);
        Check.is("as told", x.tells(1, 1, 0), -1);
        Check.is("not there", x.tells(1, 0, 0), 0);
        Check.is("items", x.cell(1, 29, -1), 1);
        Check.is("no more items", x.cell(1, 30, 0), -12);
        Check.is("ints", x.cell(1, 2, 70000), 1);
        x.sheet(0, 1, 3);
        Check.is("of ints", x.copy(1, 0, 0, 0, 3), 3);
        Check.is("others are as they were", x.tells(0, 1, 0), 2);
        Check.is("a sheet anew", x.film(0, 2, 2), 2);
        Check.is("of last", x.tells(0, 2, 0), -1);
        Check.is("none", x.film(0, 0, 0), 0);
        Check.is("not missing", x.tells(0, 0, 0), -1);
        Check.is("sheet", x.film(4, 0, 1), -2);
        Check.is("side", x.film(0, 3, 1), -2);
        Check.is("n 31", x.film(0, 0, 31), -2);
        Check.is("n -1", x.film(0, 0, -1), -2);
    }

    private static void imageAndBack() {
        TwoTreesAlike x = new TwoTreesAlike();
        x.make(0, -1, 1, -1);
        x.make(0, 0, 1, 5);
        x.sync();
        x.write(0, 1, 6);
        x.prefer(1);
        x.film(0, 0, 2);
        Check.is("kept", x.image(), 2);
        x.make(0, 0, 2, 7);
        x.make(1, -1, 5, 8);
        x.move(0, 1, -1, 3);
        x.write(1, 1, 9);
        x.prefer(0);
        x.sync();
        x.remove(0, 0);
        x.film(1, 1, 3);
        Check.feed(x, "12");
        Check.is("back", x.back(), 2);
        Check.is("things", x.count(3), 2);
        Check.is("prefer", x.count(6), 1);
        Check.is("side 0", x.told(0, 1, 3), 6);
        Check.is("its place", x.told(0, 1, 1), 0);
        Check.is("side 1", x.told(1, 1, 3), 5);
        Check.is("last", x.told(2, 1, 3), 5);
        Check.is("changed", x.told(0, 1, 6), 8);
        Check.is("sheets stay", x.tells(1, 0, 0), 2);
        Check.is("the tape stays", x.count(5), 2);
        Check.is("a number anew, of another kind", x.make(0, -1, 9, -1), 2);
        Check.is("it is a folder", x.taken(2, 1), 2);
        Check.is("back again", x.back(), 2);
        Check.is("none of it", x.told(0, 2, 0), -2);
        x.make(0, -1, 9, 1);
        Check.is("an image anew", x.image(), 3);
        x.remove(0, 2);
        Check.is("that one", x.back(), 3);
        Check.is("it is there", x.told(0, 2, 0), 1);
    }

    private static void imageKeepsPatterns() {
        TwoTreesAlike x = new TwoTreesAlike();
        x.make(0, -1, 1, 5);
        Check.pattern(x, "1");
        Check.pattern(x, "!7/**/8");
        x.drop();
        x.image();
        x.drop();
        Check.pattern(x, "!2/*");
        Check.pattern(x, "3");
        x.back();
        Check.is("how many", x.count(4), 1);
        Check.is("which", x.told(0, 0, 7), 1);
    }

    private static void imageKeepsLatest() {
        TwoTreesAlike x = new TwoTreesAlike();
        x.make(0, -1, 1, -1);
        x.make(0, 0, 1, -1);
        x.move(0, 0, 1, 1);
        x.image();
        x.make(0, -1, 2, 4);
        Check.is("done", x.latest(0), 0);
        x.back();
        Check.is("ring", x.latest(0), -7);
        Check.is("by whom", x.latest(1), 1);
        Check.is("steps", x.latest(2), 1);
    }

    private static void countCounts() {
        TwoTreesAlike x = new TwoTreesAlike();
        x.make(0, -1, 1, -1);
        x.make(0, 0, 1, 3);
        x.sync();
        x.remove(1, 0);
        x.make(0, 0, 2, 3);
        Check.pattern(x, "5");
        Check.feed(x, "5/");
        x.prefer(1);
        int[] due = {3, 0, 2, 3, 1, 2, 1};
        for (int what = 0; what < due.length; what++) {
            Check.is("count " + what, x.count(what), due[what]);
        }
        Check.is("count 7", x.count(7), -2);
        Check.is("count -1", x.count(-1), -2);
    }
}
