/** Promises 23 to 30 at their edges: what was told, images, SHEETS. */
public final class SheetsEdgesTest {
    private static final int MIN = Integer.MIN_VALUE;
    private static final int MAX = Integer.MAX_VALUE;

    public static void main(String[] args) {
        tellsIsBad();
        tellsOfAMissingOne();
        tellsOfTooMany();
        tellsOfNone();
        tellsTheFirstThatIsOtherwise();
        tellsWhereItIsJustSo();
        tellsOfNewOnes();
        tellsOfIgnoredOnes();
        tellsByShorts();
        filmIsBad();
        filmTakesTheEdges();
        filmMakesInts();
        backRefuses();
        anImageKeepsAll();
        anImageStays();
        anImageOfThings();
        anImageOfTheMost();
        sheetsAndTapeAreNotKept();
        countIsBad();
        countOfAll();
        sheetIsBad();
        sheetTakesTheEdges();
        aSheetIsAllZero();
        aSheetIsMissing();
        cellIsBad();
        cellTakesTheEdges();
        cellsOfShorts();
        cellsOfInts();
        copyIsBad();
        copyOfMissingOnes();
        copyOfUnlikeSorts();
        copyOutside();
        copyTakesTheEdges();
        copyWithinOne();
        Check.end("SheetsEdgesTest");
    }

    private static void tellsIsBad() {
        int[][] all = {
            {-1, 0, 0}, {4, 0, 0}, {MIN, 0, 0}, {MAX, 0, 0}, {1, -1, 0}, {1, 3, 0}, {1, MIN, 0}, {1, MAX, 0},
            {1, 0, -1}, {1, 0, 2}, {1, 0, MIN}, {1, 0, MAX},
            // ahead of -11
            {3, 3, 0}, {3, -1, 1}, {3, 0, 2}, {3, 0, -1},
        };
        for (int[] a : all) {
            Probe.refuses("tells " + a[0] + " " + a[1] + " " + a[2], x -> x.tells(a[0], a[1], a[2]), -2);
        }
    }

    private static void tellsOfAMissingOne() {
        for (int side = 0; side < 3; side++) {
            for (int what = 0; what < 2; what++) {
                int asked = side;
                int how = what;
                Probe.refuses("missing", x -> x.tells(3, asked, how), -11);
            }
        }
    }

    /** "(30 numbers at most)"; "BAD: it tells more than 30". */
    private static void tellsOfTooMany() {
        for (int sort = 0; sort < 2; sort++) {
            TwoTreesAlike x = new TwoTreesAlike();
            for (int n = 0; n <= 40; n++) {
                x.sheet(0, sort, n);
                Check.is(n + " numbers", x.tells(0, 0, 0), n > 30 ? -2 : n == 0 ? -1 : 0);
                Check.is(n + " numbers, where", x.tells(0, 0, 1), n > 30 ? -2 : n == 0 ? 31 : 0);
            }
        }
        Probe.refuses("40 numbers", x -> x.tells(0, 0, 0), -2);
        Probe.refuses("40 numbers, where", x -> x.tells(0, 2, 1), -2);
    }

    private static void tellsOfNone() {
        TwoTreesAlike x = Probe.busy();
        for (int side = 0; side < 3; side++) {
            Check.is("none is otherwise", x.tells(2, side, 0), -1);
            Check.is("everywhere", x.tells(2, side, 1), 31);
        }
    }

    private static TwoTreesAlike thirty() {
        TwoTreesAlike x = new TwoTreesAlike();
        for (int i = 0; i < 30; i++) {
            x.make(i % 2, -1, i, i + 100);
        }
        x.sync();
        return x;
    }

    /** "the first that is otherwise; NONE". */
    private static void tellsTheFirstThatIsOtherwise() {
        TwoTreesAlike x = thirty();
        x.film(2, 0, 30);
        Check.is("none of thirty", x.tells(2, 0, 0), -1);
        Check.is("thirty everywhere", x.tells(2, 0, 1), 31);
        for (int i = 29; i >= 0; i--) {
            x.cell(2, i, i % 2 == 0 ? -1 : 0);
            for (int side = 0; side < 3; side++) {
                Check.is("the first of them", x.tells(2, side, 0), i);
            }
            Check.is("nowhere", x.tells(2, 0, 1), 0);
        }
        x.film(2, 0, 30);
        x.remove(0, 29);
        Check.is("the last is gone", x.tells(2, 0, 0), 29);
        x.cell(2, 29, -1);
        Check.is("told so", x.tells(2, 0, 0), -1);
        Check.is("but not there", x.tells(2, 1, 0), 29);
        TwoTreesAlike y = Probe.busy();
        y.sheet(3, 1, 8);
        int[] told = {7, 0, 0, -1, 6, 4, -1, -1};
        for (int i = 0; i < 8; i++) {
            Check.is("so far", y.tells(3, 0, 0), told[i] == 0 ? 3 : i);
            y.cell(3, i, told[i]);
        }
        Check.is("one that never was is told of, too", y.tells(3, 0, 0), -1);
    }

    private static void is(String what, int[] told, int due) {
        for (int sort = 0; sort < 2; sort++) {
            TwoTreesAlike x = Probe.busy();
            x.sheet(3, sort, told.length);
            for (int i = 0; i < told.length; i++) {
                x.cell(3, i, told[i]);
            }
            for (int side = 0; side < 3; side++) {
                Check.is(what, x.tells(3, side, 1), due);
                Check.is(what + ", whatever is preferred", x.prefer(1) * 100 + x.tells(3, side, 1), due + (side == 0 ? 0 : 100));
            }
        }
    }

    /** "where (bits: SIDES 0, 1, LAST 2, TARGET by PREFER 0 3, by 1 4) it is just so". */
    private static void tellsWhereItIsJustSo() {
        is("side 0", new int[] {7, 0, 0, -1, 6, 4}, 1);
        is("side 1", new int[] {8, 0, 0, 5, -1, -1, 0}, 2);
        is("last", new int[] {9, 0, 0, 5, 6}, 4);
        is("last, none behind", new int[] {9, 0, 0, 5, 6, -1, -1, -1}, 4);
        is("target by 0", new int[] {7, 0, 0, -1, -1, 4, 0, 8}, 8);
        is("target by 1", new int[] {8, 0, 0, -1, -1, 4, 0, 7}, 16);
        is("side 0 and target by 0", new int[] {7, 0, 0, -1}, 1 + 8);
        is("side 1 and target by 1", new int[] {8, 0, 0}, 2 + 16);
        is("last alone", new int[] {9}, 4);
        is("nowhere", new int[] {6}, 0);
        is("a folder is no -1", new int[] {7, -1}, 0);
        TwoTreesAlike x = new TwoTreesAlike();
        x.film(0, 0, 30);
        Check.is("nothing is everywhere", x.tells(0, 1, 1), 31);
    }

    /** "THINGS that come by (3) count there". */
    private static void tellsOfNewOnes() {
        is("by 0, without", new int[] {7, 0, 0, -1, -1, 4, 0}, 8);
        is("by 0, it isn't there", new int[] {7, 0, 0, -1, -1, 4, 0, -1}, 0);
        is("by 0, and no more", new int[] {7, 0, 0, -1, -1, 4, 0, 8, -1}, 8);
        is("by 0, another one", new int[] {7, 0, 0, -1, -1, 4, 0, 8, 0}, 0);
        is("the wrong one's", new int[] {7, 0, 0, -1, -1, 4, 0, 7}, 0);
        TwoTreesAlike x = new TwoTreesAlike();
        for (int i = 0; i < 29; i++) {
            x.make(0, -1, i, 5);
        }
        x.sync();
        x.write(0, 3, 6);
        x.write(1, 3, 7);
        x.film(1, 0, 30);
        Check.is("side 0, without the thirtieth", x.tells(1, 0, 1), 1);
        x.cell(1, 29, 7);
        Check.is("the thirtieth comes", x.tells(1, 0, 1), 8);
        x.cell(1, 29, 6);
        x.cell(1, 3, 7);
        Check.is("by 1", x.tells(1, 0, 1), 16);
    }

    private static void tellsOfIgnoredOnes() {
        TwoTreesAlike x = Probe.busy();
        x.pattern();
        Check.pattern(x, "10");
        x.film(0, 0, 6);
        Check.is("side 0", x.tells(0, 0, 1), 1);
        x.film(0, 2, 1);
        Check.is("in last", x.tells(0, 0, 1), 4);
        x.cell(0, 0, -1);
        Check.is("ignored ones are not in target", x.tells(0, 0, 1), 8 + 16);
    }

    /** "of shorts its lowest 16 bits": such a number is told. */
    private static void tellsByShorts() {
        TwoTreesAlike x = Probe.busy();
        x.sheet(3, 0, 1);
        int[] all = {7, 65536 + 7, -65536 + 7, 0x7FFF0007, MIN + 7};
        for (int v : all) {
            x.cell(3, 0, v);
            Check.is("7 by " + v, x.tells(3, 0, 0), -1);
            x.cell(3, 0, v + 1);
            Check.is("8 by " + (v + 1), x.tells(3, 0, 0), 0);
            Check.is("8 on side 1", x.tells(3, 1, 0), -1);
        }
    }

    private static void filmIsBad() {
        int[][] all = {
            {-1, 0, 1}, {4, 0, 1}, {MIN, 0, 1}, {MAX, 0, 1}, {0, -1, 1}, {0, 3, 1}, {0, MIN, 1}, {0, MAX, 1},
            {0, 0, -1}, {0, 0, 31}, {0, 0, 40}, {0, 0, MIN}, {0, 0, MAX}, {3, 0, 31}, {3, 3, 5},
        };
        for (int[] a : all) {
            Probe.refuses("film " + a[0] + " " + a[1] + " " + a[2], x -> x.film(a[0], a[1], a[2]), -2);
        }
    }

    /** "CONTENTS of THINGS 0 .. n - 1 (n 0 .. 30) on a SIDE (2: in LAST; ints)". */
    private static void filmTakesTheEdges() {
        for (int side = 0; side < 3; side++) {
            TwoTreesAlike x = Probe.busy();
            for (int n : new int[] {0, 1, 6, 7, 8, 29, 30}) {
                int sheet = n % 4;
                Check.is("film", x.film(sheet, side, n), n);
                Check.is("so many", Probe.size(x, sheet), n);
                Check.is("just so", x.tells(sheet, side, 0), -1);
                Check.is("on that side alone", x.tells(sheet, side, 1) % 8, n == 0 ? 7 : 1 << side);
            }
        }
        TwoTreesAlike y = thirty();
        Check.is("thirty", y.film(0, 2, 30), 30);
        Check.is("they are told", y.tells(0, 2, 0), -1);
        Check.is("the last", y.cell(0, 29, 0), 1);
        Check.is("it was otherwise", y.tells(0, 2, 0), 29);
    }

    /** "A SHEET truly becomes" ints, whatever it was. */
    private static void filmMakesInts() {
        TwoTreesAlike x = Probe.busy();
        Check.is("shorts", Probe.sort(x, 0, 3), 0);
        x.film(0, 0, 3);
        Check.is("ints", Probe.sort(x, 0, 3), 1);
        x.sheet(3, -1, 0);
        x.film(3, 0, 0);
        Check.is("one that was missing", Probe.sort(x, 3, 2), 1);
        Check.is("of none", Probe.size(x, 3), 0);
        x.film(0, 0, 2);
        x.write(0, 0, 99);
        Check.is("it does not follow", x.tells(0, 0, 0), 0);
        x.cell(0, 0, 5);
        Check.is("nor does the thing", x.told(0, 0, 3), 99);
    }

    private static void backRefuses() {
        Probe.refuses("none", () -> {
            TwoTreesAlike x = new TwoTreesAlike();
            x.make(0, -1, 0, 5);
            x.sync();
            x.write(1, 0, 6);
            x.make(0, -1, 50, 5);
            Check.feed(x, "12");
            x.sheet(1, 0, 3);
            return x;
        }, TwoTreesAlike::back, -3, true);
    }

    /** All that an image keeps is changed: what is made, SIDES, LAST, PATTERNS, PREFER, what latest() tells. */
    private static int changeAll(TwoTreesAlike x) {
        x.write(0, 0, 900);
        x.move(1, 2, -1, 40);
        x.remove(0, 1);
        x.make(1, -1, 41, -1);
        x.sync();
        x.drop();
        x.drop();
        x.drop();
        for (String text : new String[] {"!**/40", "41/*", "1", "2", "3", "4"}) {
            for (int i = 0; i < text.length(); i++) {
                x.feed(1, text.charAt(i), 0, 0, 0, 0);
            }
            x.pattern();
        }
        x.prefer(1 - x.count(6));
        x.make(0, -1, 48, 1);
        x.write(1, 0, 901);
        x.sync();
        return x.write(0, 99, 0);
    }

    private static TwoTreesAlike imaged() {
        TwoTreesAlike x = Probe.busy();
        x.pattern();
        x.image();
        return x;
    }

    /** "All that it keeps is as in THE IMAGE". */
    private static void anImageKeepsAll() {
        Probe.changesNothing("all is back", SheetsEdgesTest::imaged, x -> changeAll(x) + x.back(), true);
        Probe.changesNothing("back at once", SheetsEdgesTest::imaged, TwoTreesAlike::back, true);
        Probe.changesNothing("back twice", SheetsEdgesTest::imaged, x -> x.back() + changeAll(x) + x.back(), true);
        Probe.changesNothing("an image of an image", SheetsEdgesTest::imaged, x -> x.image() + changeAll(x) + x.back(), true);
        Probe.changesNothing("an image of what is back", SheetsEdgesTest::imaged, x -> changeAll(x) + x.back() + x.image(), true);
    }

    private static void anImageStays() {
        TwoTreesAlike x = imaged();
        changeAll(x);
        Check.is("it was 7", x.back(), 7);
        Check.is("so was thing 0", x.told(0, 0, 3), 7);
        x.write(0, 0, 1);
        x.back();
        Check.is("again", x.told(0, 0, 3), 7);
        x.write(0, 0, 2);
        x.image();
        x.write(0, 0, 3);
        x.back();
        Check.is("the latest image", x.told(0, 0, 3), 2);
    }

    /** "AN IMAGE is kept: how many THINGS", and so of back(). */
    private static void anImageOfThings() {
        TwoTreesAlike x = new TwoTreesAlike();
        Check.is("none", x.image(), 0);
        for (int i = 0; i < 30; i++) {
            x.make(0, -1, i, 5);
        }
        Check.is("back to none", x.back(), 0);
        Check.is("none is there", x.count(0), 0);
        Check.is("thing 0 is none", x.told(0, 0, 0), -2);
        for (int i = 0; i < 30; i++) {
            Check.is("anew", x.make(1, -1, i, -1), i);
        }
        Check.is("thirty", x.image(), 30);
        Check.is("a folder now", x.taken(29, 1), 29);
        x.remove(1, 0);
        Check.is("thirty ever", x.image(), 30);
        x.remove(1, 1);
        Check.is("back to thirty", x.back(), 30);
        Check.is("of which 29 are there", x.count(1), 29);
    }

    /** Of 6 PATTERNS of 8 PARTS each PART, of 30 THINGS each. */
    private static void anImageOfTheMost() {
        TwoTreesAlike x = new TwoTreesAlike();
        for (int i = 0; i < 30; i++) {
            x.make(0, i < 10 ? i - 1 : -1, i, i < 10 ? -1 : i);
        }
        x.sync();
        for (int i = 0; i < 6; i++) {
            Check.is("pattern", Check.pattern(x, "0/1/2/3/4/5/6/" + (i < 3 ? "7" : "*")), i);
        }
        x.image();
        for (int i = 0; i < 6; i++) {
            x.drop();
        }
        for (int i = 0; i < 6; i++) {
            Check.is("another", Check.pattern(x, "!0/1/2/3/4/5/6/" + (i < 3 ? "8" : "9")), i);
        }
        x.remove(0, 29);
        x.move(1, 29, -1, 40);
        Check.is("thirty are back", x.back(), 30);
        for (int i = 0; i < 6; i++) {
            Check.is("it is matched", x.matches(i, 0, 7), 1);
        }
        Check.is("and ignored", x.told(0, 7, 7), 1);
        Check.is("the last one", x.told(0, 29, 3), 29);
        Check.is("on the other side", x.told(1, 29, 2), 29);
    }

    /** "but not SHEETS, THE TAPE". */
    private static void sheetsAndTapeAreNotKept() {
        TwoTreesAlike x = Probe.busy();
        x.image();
        x.feed(1, '1', 0, 0, 0, 0);
        x.sheet(0, -1, 0);
        x.sheet(3, 0, 1);
        x.cell(3, 0, 9);
        x.film(1, 1, 1);
        x.back();
        Check.is("the tape", x.count(5), 5);
        Check.is("missing", Probe.size(x, 0), -1);
        Check.is("one number", Probe.size(x, 1), 1);
        Check.is("of side 1", x.tells(1, 1, 0), -1);
        Check.is("a new one", x.tells(3, 2, 0), -1);
        Check.is("what the tape has", x.pattern(), -104);
        x.back();
        Check.is("it is empty still", x.count(5), 0);
    }

    private static void countIsBad() {
        for (int what : new int[] {-1, 7, MIN, MAX}) {
            Probe.refuses("count " + what, x -> x.count(what), -2);
        }
    }

    private static void countOfAll() {
        TwoTreesAlike x = Probe.busy();
        int[] due = {5, 5, 5, 7, 2, 4, 0};
        for (int what = 0; what <= 6; what++) {
            Check.is("count " + what, x.count(what), due[what]);
        }
        x.remove(0, 0);
        x.prefer(1);
        x.pattern();
        int[] then = {4, 5, 5, 7, 3, 0, 1};
        for (int what = 0; what <= 6; what++) {
            Check.is("count " + what + " then", x.count(what), then[what]);
        }
        TwoTreesAlike y = Probe.full();
        Check.is("28 are on side 0", y.count(0), 28);
        Check.is("thirty ever", y.count(3), 30);
        y.sync();
        Check.is("on both", y.count(0), y.count(1));
        Check.is("in last", y.count(2), y.count(0));
    }

    private static void sheetIsBad() {
        int[][] all = {
            {-1, 0, 1}, {4, 0, 1}, {MIN, 0, 1}, {MAX, 0, 1}, {0, -2, 1}, {0, 2, 1}, {0, MIN, 1}, {0, MAX, 1},
            {0, 0, 41}, {0, 1, 41}, {0, 0, MAX}, {3, 1, MAX},
            // ahead of -14
            {4, 0, -1}, {-1, 1, -1}, {0, 2, -1}, {0, -2, -1}, {4, -1, 0}, {-1, -1, 0},
        };
        for (int[] a : all) {
            Probe.refuses("sheet " + a[0] + " " + a[1] + " " + a[2], x -> x.sheet(a[0], a[1], a[2]), -2);
        }
        for (int n : new int[] {-1, -2, MIN}) {
            for (int sort = 0; sort <= 1; sort++) {
                int asked = sort;
                Probe.refuses("sheet of " + n, x -> x.sheet(0, asked, n), -14);
                Probe.refuses("a missing one of " + n, x -> x.sheet(3, asked, n), -14);
            }
        }
    }

    private static void sheetTakesTheEdges() {
        for (int sheet = 0; sheet < 4; sheet++) {
            for (int sort = 0; sort <= 1; sort++) {
                TwoTreesAlike x = new TwoTreesAlike();
                for (int n : new int[] {0, 1, 39, 40}) {
                    Check.is("sheet", x.sheet(sheet, sort, n), 1);
                    Check.is("of so many", Probe.size(x, sheet), n);
                    Check.is("of that sort", Probe.sort(x, sheet, (sheet + 1) % 4), sort);
                    x.sheet((sheet + 1) % 4, -1, 0);
                }
            }
        }
    }

    /** "A SHEET becomes a row of n of a sort, all 0". */
    private static void aSheetIsAllZero() {
        TwoTreesAlike x = thirty();
        TwoTreesAlike zeros = new TwoTreesAlike();
        for (int i = 0; i < 30; i++) {
            zeros.make(0, -1, i, 0);
        }
        for (int sort = 0; sort <= 1; sort++) {
            zeros.film(0, 2, 30);
            Check.is("all -1", zeros.tells(0, 2, 0), -1);
            zeros.sheet(0, sort, 30);
            Check.is("all 0", zeros.tells(0, 0, 0), -1);
            zeros.sheet(1, sort, 40);
            for (int i = 0; i < 40; i++) {
                zeros.cell(1, i, 5);
            }
            zeros.sheet(1, sort, 40);
            Check.is("the last ones", zeros.copy(1, 20, 0, 0, 20), 20);
            Check.is("are 0", zeros.tells(0, 0, 0), -1);
            zeros.copy(1, 0, 0, 0, 30);
            Check.is("the first ones, too", zeros.tells(0, 0, 0), -1);
            zeros.cell(1, 35, 5);
            zeros.sheet(1, sort, 10);
            zeros.sheet(1, sort, 40);
            zeros.copy(1, 20, 0, 0, 20);
            Check.is("by a shorter row between", zeros.tells(0, 0, 0), -1);
        }
        x.sheet(0, 1, 1);
        Check.is("0 is not 100", x.tells(0, 0, 0), 0);
    }

    /** "or missing (sort -1: n does not matter)". */
    private static void aSheetIsMissing() {
        for (int n : new int[] {0, 1, 40, 41, -1, MIN, MAX}) {
            for (int sheet = 0; sheet < 4; sheet++) {
                TwoTreesAlike x = Probe.busy();
                Check.is("missing", x.sheet(sheet, -1, n), 1);
                Check.is("it is", x.cell(sheet, 0, 0), -11);
                int another = (sheet + 1) % 3;
                Check.is("another is not", Probe.size(x, another), another == 0 ? 40 : another == 1 ? 30 : 0);
            }
        }
    }

    private static void cellIsBad() {
        int[][] all = {{-1, 0}, {4, 0}, {MIN, 0}, {MAX, 0}, {4, -1}, {-1, 99}};
        for (int[] a : all) {
            Probe.refuses("cell " + a[0] + " " + a[1], x -> x.cell(a[0], a[1], 5), -2);
        }
        for (int i : new int[] {0, -1, 40, MIN, MAX}) {
            Probe.refuses("missing, " + i, x -> x.cell(3, i, 5), -11);
            Probe.refuses("of none, " + i, x -> x.cell(2, i, 5), -12);
        }
        for (int i : new int[] {-1, 40, 41, MIN, MAX}) {
            Probe.refuses("outside of 40: " + i, x -> x.cell(0, i, 5), -12);
        }
        for (int i : new int[] {-1, 30, 31, 39, MIN, MAX}) {
            Probe.refuses("outside of 30: " + i, x -> x.cell(1, i, 5), -12);
        }
    }

    private static void cellTakesTheEdges() {
        TwoTreesAlike x = Probe.busy();
        for (int i : new int[] {0, 1, 38, 39}) {
            Check.is("of 40", x.cell(0, i, i), 1);
        }
        for (int i : new int[] {0, 29}) {
            Check.is("of 30", x.cell(1, i, 7), 1);
        }
        Check.is("29 is otherwise", x.tells(1, 0, 0), 29);
        x.cell(1, 29, -1);
        Check.is("as it was", x.tells(1, 0, 0), -1);
        x.cell(1, 1, 1);
        Check.is("just that one", x.tells(1, 0, 0), 1);
    }

    /** What a cell of a sort is, when v comes to it: whether it is a number that a THING of busy() can be told by. */
    private static void cellIs(int sort, int v, int due) {
        TwoTreesAlike x = new TwoTreesAlike();
        x.make(0, -1, 0, Math.max(0, due));
        if (due == -1) {
            x.remove(0, 0);
        }
        x.sheet(0, sort, 1);
        Check.is("cell", x.cell(0, 0, v), 1);
        Check.is("of sort " + sort + ", " + v + " is " + due, x.tells(0, 0, 0), due < -1 ? 0 : -1);
    }

    /** "(of shorts its lowest 16 bits)". */
    private static void cellsOfShorts() {
        int[][] all = {
            {0, 0}, {999, 999}, {-1, -1}, {65535, -1}, {65536, 0}, {65537, 1}, {-65536, 0}, {-65535, 1}, {-65537, -1},
            {MAX, -1}, {MIN, 0}, {MIN + 5, 5}, {0x12340005, 5}, {131072 + 999, 999}, {32768, -2}, {32767, -2},
        };
        for (int[] a : all) {
            cellIs(0, a[0], a[1]);
        }
    }

    private static void cellsOfInts() {
        int[][] all = {
            {0, 0}, {999, 999}, {-1, -1}, {65535, -2}, {65536, -2}, {-65536, -2}, {MAX, -2}, {MIN, -2}, {0x10005, -2},
        };
        for (int[] a : all) {
            cellIs(1, a[0], a[1]);
        }
    }

    private static void copyIsBad() {
        int[][] all = {
            {-1, 0}, {4, 0}, {MIN, 0}, {MAX, 0}, {0, -1}, {0, 4}, {0, MIN}, {0, MAX},
            // ahead of -11
            {4, 3}, {3, 4}, {-1, 3}, {3, -1},
        };
        for (int[] a : all) {
            Probe.refuses("copy " + a[0] + " " + a[1], x -> x.copy(a[0], 0, a[1], 0, 1), -2);
            Probe.refuses("ahead of -12 " + a[0] + " " + a[1], x -> x.copy(a[0], -1, a[1], 99, -1), -2);
        }
    }

    private static void copyOfMissingOnes() {
        Probe.refuses("the first", x -> x.copy(3, 0, 0, 0, 1), -11);
        Probe.refuses("the other", x -> x.copy(0, 0, 3, 0, 1), -11);
        Probe.refuses("both", x -> x.copy(3, 0, 3, 0, 0), -11);
        Probe.refuses("the first, ahead of -12", x -> x.copy(3, -1, 0, 0, 1), -11);
        Probe.refuses("the other, ahead of -12", x -> x.copy(0, 0, 3, 0, -1), -11);
    }

    private static void copyOfUnlikeSorts() {
        Probe.refuses("shorts to ints", x -> x.copy(0, 0, 1, 0, 1), -13);
        Probe.refuses("ints to shorts", x -> x.copy(1, 0, 0, 0, 1), -13);
        Probe.refuses("none of them", x -> x.copy(1, 0, 0, 0, 0), -13);
        Probe.refuses("ahead of -12 by i", x -> x.copy(0, -1, 1, 0, 1), -13);
        Probe.refuses("ahead of -12 by j", x -> x.copy(0, 0, 2, 1, 1), -13);
        Probe.refuses("ahead of -12 by n", x -> x.copy(1, 0, 0, 0, -1), -13);
    }

    /** "-12 (also with n below 0)". */
    private static void copyOutside() {
        int[][] all = {
            {1, 0, 1, 0, -1}, {1, 0, 1, 0, MIN}, {1, 0, 1, 0, 31}, {1, 0, 1, 0, MAX},
            {1, -1, 1, 0, 1}, {1, 30, 1, 0, 1}, {1, 31, 1, 0, 0}, {1, MIN, 1, 0, 1}, {1, MAX, 1, 0, 1}, {1, -1, 1, 0, 0},
            {1, 0, 1, -1, 1}, {1, 0, 1, 30, 1}, {1, 0, 1, 31, 0}, {1, 0, 1, MIN, 1}, {1, 0, 1, MAX, 1}, {1, 0, 1, -1, 0},
            {1, 29, 1, 0, 2}, {1, 0, 1, 29, 2}, {1, MAX, 1, 0, MAX}, {1, 0, 1, MAX, MAX}, {1, 1, 1, 0, MAX}, {1, 0, 1, 1, MAX},
            {1, MAX, 1, MAX, MIN}, {1, MIN, 1, MIN, MIN}, {1, MIN, 1, 0, MIN}, {1, 1, 1, 1, MIN},
            {1, 0, 2, 0, 1}, {2, 0, 1, 0, 1}, {2, 1, 1, 0, 0}, {2, 0, 1, 0, -1}, {0, 0, 0, 0, 41}, {0, 40, 0, 0, 1},
        };
        for (int[] a : all) {
            Probe.refuses("copy " + a[0] + " " + a[1] + " " + a[2] + " " + a[3] + " " + a[4],
                    x -> x.copy(a[0], a[1], a[2], a[3], a[4]), -12);
        }
    }

    private static void copyTakesTheEdges() {
        Probe.changesNothing("none at the ends", Probe::busy, x -> x.copy(1, 30, 1, 30, 0), true);
        Probe.changesNothing("none of none", Probe::busy, x -> x.copy(2, 0, 2, 0, 0), true);
        Probe.changesNothing("none to none", Probe::busy, x -> x.copy(1, 30, 2, 0, 0), true);
        Probe.changesNothing("all to themselves", Probe::busy, x -> x.copy(1, 0, 1, 0, 30), true);
        TwoTreesAlike x = Probe.busy();
        Check.is("none", x.copy(1, 30, 1, 30, 0), 0);
        Check.is("none of none", x.copy(2, 0, 2, 0, 0), 0);
        Check.is("all", x.copy(1, 0, 1, 0, 30), 30);
        Check.is("forty", x.copy(0, 0, 0, 0, 40), 40);
        x.sheet(3, 1, 30);
        Check.is("to another one", x.copy(1, 0, 3, 0, 30), 30);
        Check.is("they are there", x.tells(3, 0, 0), -1);
        Check.is("they stay", x.tells(1, 0, 0), -1);
        x.sheet(3, 1, 2);
        Check.is("the last two", x.copy(1, 4, 3, 0, 2), 2);
        x.film(2, 0, 6);
        Check.is("behind others", x.copy(3, 0, 2, 4, 2), 2);
        Check.is("as it was", x.tells(2, 0, 0), -1);
        Check.is("one of them", x.copy(3, 1, 2, 3, 1), 1);
        Check.is("not as it was", x.tells(2, 0, 0), 3);
        x.sheet(3, 0, 1);
        x.cell(3, 0, 65536 + 7);
        x.sheet(2, 0, 1);
        Check.is("of shorts", x.copy(3, 0, 2, 0, 1), 1);
        Check.is("their lowest bits", x.tells(2, 0, 0), -1);
    }

    /** "(as they were)": also where both rows are one. */
    private static void copyWithinOne() {
        for (int by = 1; by < 5; by++) {
            TwoTreesAlike x = new TwoTreesAlike();
            TwoTreesAlike up = new TwoTreesAlike();
            TwoTreesAlike down = new TwoTreesAlike();
            for (int i = 0; i < 10; i++) {
                x.make(0, -1, i, i);
                up.make(0, -1, i, i < by ? i : i - by);
                down.make(0, -1, i, i + by < 10 ? i + by : i);
            }
            for (int sort = 0; sort <= 1; sort++) {
                for (TwoTreesAlike due : new TwoTreesAlike[] {x, up, down}) {
                    due.sheet(0, sort, 10);
                    for (int i = 0; i < 10; i++) {
                        due.cell(0, i, i);
                    }
                }
                Check.is("as they are", x.tells(0, 0, 0), -1);
                Check.is("up", up.copy(0, 0, 0, by, 10 - by), 10 - by);
                Check.is("up by " + by, up.tells(0, 0, 0), -1);
                Check.is("down", down.copy(0, by, 0, 0, 10 - by), 10 - by);
                Check.is("down by " + by, down.tells(0, 0, 0), -1);
            }
        }
    }
}
