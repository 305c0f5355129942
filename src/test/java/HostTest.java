/** Promises 28 to 30: the host's sheets. What stands in a sheet is told by tells(), of things that are there. */
public final class HostTest {
    public static void main(String[] args) {
        sheetsBecomeRows();
        sheetRefuses();
        cellsOfShorts();
        cellRefuses();
        copyCopies();
        copyRefuses();
        Check.end("HostTest");
    }

    /** Thing i holds i + 1. */
    private static TwoTreesAlike counting(int n) {
        TwoTreesAlike x = new TwoTreesAlike();
        for (int i = 0; i < n; i++) {
            x.make(0, -1, i, i + 1);
        }
        return x;
    }

    private static void sheetsBecomeRows() {
        TwoTreesAlike x = new TwoTreesAlike();
        x.make(0, -1, 0, 0);
        Check.is("shorts", x.sheet(0, 0, 40), 1);
        Check.is("ints", x.sheet(3, 1, 1), 1);
        Check.is("40", x.cell(0, 39, 1), 1);
        x.cell(3, 0, 5);
        Check.is("it is 5", x.tells(3, 0, 0), 0);
        Check.is("anew", x.sheet(3, 1, 1), 1);
        Check.is("all 0", x.tells(3, 0, 0), -1);
        Check.is("missing", x.sheet(3, -1, 99), 1);
        Check.is("it is", x.cell(3, 0, 0), -11);
        Check.is("missing again", x.sheet(3, -1, -99), 1);
        Check.is("none", x.sheet(3, 0, 0), 1);
        Check.is("no item", x.cell(3, 0, 0), -12);
    }

    private static void sheetRefuses() {
        TwoTreesAlike x = new TwoTreesAlike();
        Check.is("sheet 4", x.sheet(4, 0, 1), -2);
        Check.is("sheet -1", x.sheet(-1, 0, 1), -2);
        Check.is("sort 2", x.sheet(0, 2, 1), -2);
        Check.is("sort -2", x.sheet(0, -2, 1), -2);
        Check.is("41", x.sheet(0, 0, 41), -2);
        Check.is("-1", x.sheet(0, 0, -1), -14);
        Check.is("still missing", x.cell(0, 0, 0), -11);
        x.sheet(0, 0, 2);
        x.sheet(0, 1, 41);
        x.sheet(0, 1, -5);
        Check.is("still there", x.cell(0, 1, 0), 1);
    }

    private static void cellsOfShorts() {
        TwoTreesAlike x = counting(2);
        x.sheet(0, 0, 2);
        x.sheet(1, 1, 2);
        x.cell(0, 0, 65537);
        x.cell(0, 1, 2);
        x.cell(1, 0, 65537);
        x.cell(1, 1, 2);
        Check.is("the lowest 16 bits", x.tells(0, 0, 0), -1);
        Check.is("all bits", x.tells(1, 0, 0), 0);
        x.cell(0, 0, 65535);
        x.cell(0, 1, -1);
        Check.is("below 0", x.tells(0, 1, 0), -1);
    }

    private static void cellRefuses() {
        TwoTreesAlike x = new TwoTreesAlike();
        Check.is("sheet", x.cell(4, 0, 0), -2);
        Check.is("sheet -1", x.cell(-1, 0, 0), -2);
        Check.is("missing", x.cell(0, -1, 0), -11);
        x.sheet(0, 1, 3);
        Check.is("-1", x.cell(0, -1, 0), -12);
        Check.is("3", x.cell(0, 3, 0), -12);
        Check.is("2", x.cell(0, 2, Integer.MIN_VALUE), 1);
    }

    private static void copyCopies() {
        TwoTreesAlike x = counting(5);
        x.film(0, 0, 5);
        x.sheet(1, 1, 5);
        Check.is("all", x.copy(0, 0, 1, 0, 5), 5);
        Check.is("they came", x.tells(1, 0, 0), -1);
        // 1 2 3 4 5 becomes 1 1 2 3 4, then 1 2 3 4 4
        Check.is("upward within one", x.copy(1, 0, 1, 1, 4), 4);
        Check.is("otherwise", x.tells(1, 0, 0), 1);
        Check.is("downward within one", x.copy(1, 1, 1, 0, 4), 4);
        Check.is("as they were", x.tells(1, 0, 0), 4);
        Check.is("a part", x.copy(0, 4, 1, 4, 1), 1);
        Check.is("all are there", x.tells(1, 0, 0), -1);
        Check.is("none", x.copy(0, 5, 1, 5, 0), 0);
    }

    private static void copyRefuses() {
        TwoTreesAlike x = new TwoTreesAlike();
        x.sheet(0, 0, 3);
        x.sheet(1, 1, 3);
        x.sheet(2, 0, 5);
        Check.is("sheet", x.copy(4, 0, 0, 0, 1), -2);
        Check.is("other", x.copy(0, 0, -1, 0, 1), -2);
        Check.is("other 4 ahead of missing", x.copy(3, 0, 4, 0, 1), -2);
        Check.is("missing", x.copy(3, 0, 0, 0, 1), -11);
        Check.is("other missing", x.copy(0, 0, 3, 0, 1), -11);
        Check.is("sorts", x.copy(0, 0, 1, 0, 1), -13);
        Check.is("sorts ahead of places", x.copy(0, -1, 1, 0, 1), -13);
        Check.is("n", x.copy(0, 0, 2, 0, -1), -12);
        Check.is("i", x.copy(0, -1, 2, 0, 1), -12);
        Check.is("j", x.copy(0, 0, 2, -1, 1), -12);
        Check.is("i + n", x.copy(0, 1, 2, 0, 3), -12);
        Check.is("j + n", x.copy(2, 0, 0, 1, 3), -12);
        Check.is("i behind", x.copy(0, 4, 2, 0, 0), -12);
        Check.is("far", x.copy(0, Integer.MAX_VALUE, 2, 0, Integer.MAX_VALUE), -12);
        Check.is("far n", x.copy(0, 1, 2, 1, Integer.MAX_VALUE), -12);
        Check.is("far below", x.copy(0, Integer.MIN_VALUE, 2, 0, 1), -12);
    }
}
