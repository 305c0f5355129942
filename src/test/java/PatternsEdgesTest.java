/** Promises 10 to 13 at their edges, and who is IGNORED. */
public final class PatternsEdgesTest {
    private static final int MIN = Integer.MIN_VALUE;
    private static final int MAX = Integer.MAX_VALUE;

    public static void main(String[] args) {
        feedIsBad();
        feedTakesTheEdges();
        theTapeHasForty();
        sixPatterns();
        numbersAreTwoDigits();
        tokensAreLong();
        blanksStandBetween();
        bytesThatBeginNone();
        partsInOrder();
        eightParts();
        textsThatEndTooEarly();
        theFirstFaultCounts();
        theTapeIsEmptyThen();
        dropRefuses();
        matchesRefuses();
        aNumberIsJustThatName();
        starsStandForNames();
        doubleStarsStandForNone();
        partsStandForAllNames();
        thePathIsOfThatSide();
        theInnermostDecides();
        theLastOneDecides();
        whoIsNotThereIsNotIgnored();
        ignoredAtAllByOneTree();
        ignoredAtAllByFolders();
        thirtyAreIgnored();
        Check.end("PatternsEdgesTest");
    }

    /** "n bytes (1 .. 5), a, b, .. (all 0 .. 255, also those that are not asked)". */
    private static void feedIsBad() {
        for (int n : new int[] {0, 6, -1, MIN, MAX}) {
            Probe.refuses("feed " + n, x -> x.feed(n, 49, 49, 49, 49, 49), -2);
        }
        for (int v : new int[] {-1, 256, MIN, MAX}) {
            for (int n = 1; n <= 5; n++) {
                int count = n;
                Probe.refuses("a " + v, x -> x.feed(count, v, 49, 49, 49, 49), -2);
                Probe.refuses("b " + v, x -> x.feed(count, 49, v, 49, 49, 49), -2);
                Probe.refuses("c " + v, x -> x.feed(count, 49, 49, v, 49, 49), -2);
                Probe.refuses("d " + v, x -> x.feed(count, 49, 49, 49, v, 49), -2);
                Probe.refuses("e " + v, x -> x.feed(count, 49, 49, 49, 49, v), -2);
            }
        }
    }

    private static void feedTakesTheEdges() {
        TwoTreesAlike x = new TwoTreesAlike();
        Check.is("all 0", x.feed(5, 0, 0, 0, 0, 0), 5);
        Check.is("all 255", x.feed(5, 255, 255, 255, 255, 255), 10);
        Check.is("one", x.feed(1, 255, 0, 255, 0, 255), 11);
        for (int n = 1; n <= 5; n++) {
            TwoTreesAlike y = new TwoTreesAlike();
            Check.is("behind", y.feed(1, '1', '!', '!', '!', '!'), 1);
            Check.is("n", y.feed(n, '/', '*', '/', '2', '/'), 1 + n);
            Check.is("these stand there", y.pattern(), n % 2 == 1 ? -101 - n : 0);
        }
    }

    private static TwoTreesAlike fed(int n) {
        TwoTreesAlike x = Probe.busy();
        for (int i = x.count(5); i < n; i++) {
            x.feed(1, ' ', 0, 0, 0, 0);
        }
        return x;
    }

    /** "THE TAPE (40 bytes at most)"; "FULL: they have no room." */
    private static void theTapeHasForty() {
        for (int n = 1; n <= 5; n++) {
            int count = n;
            Check.is("to 39", fed(39 - n).feed(n, '1', '1', '1', '1', '1'), 39);
            Check.is("to 40", fed(40 - n).feed(n, '1', '1', '1', '1', '1'), 40);
            for (int over = 1; over <= n; over++) {
                int size = 40 - n + over;
                Probe.refuses("over by " + over, () -> fed(size), x -> x.feed(count, '1', '1', '1', '1', '1'), -4, true);
            }
        }
        Probe.refuses("bad ahead of full", () -> fed(40), x -> x.feed(1, 0, 0, 0, 0, 256), -2, true);
        Probe.refuses("a bad n ahead of full", () -> fed(40), x -> x.feed(6, 0, 0, 0, 0, 0), -2, true);
        TwoTreesAlike x = fed(39);
        x.feed(1, '!', 0, 0, 0, 0);
        Check.is("the 40th byte is read", x.pattern(), -139);
        TwoTreesAlike y = new TwoTreesAlike();
        Check.is("a pattern of 40 bytes", Check.pattern(y, "!  12 / 34 /** /*/ 56/ 7 /\n\n\n89 / 0     "), 0);
        Check.is("a number at the end of 40", Check.pattern(y, " ".repeat(38) + "12"), 1);
        Check.is("one that ends behind 40", Check.pattern(y, " ".repeat(37) + "12/"), -140);
        Check.is("stars at the end of 40", Check.pattern(y, " ".repeat(38) + "**"), 2);
        Check.is("a star at the end of 40", Check.pattern(y, " ".repeat(39) + "*"), 3);
        Check.is("40 digits", Check.pattern(y, "1".repeat(40)), -100);
    }

    /** "PATTERNS (6 at most, numbered from 0)"; "FULL: 6 (THE TAPE stays)". */
    private static TwoTreesAlike six(String tape) {
        TwoTreesAlike x = Probe.busy();
        x.pattern();
        for (int i = 3; i < 6; i++) {
            Check.is("number", Check.pattern(x, "1" + i), i);
        }
        Check.feed(x, tape);
        return x;
    }

    private static void sixPatterns() {
        for (String tape : new String[] {"1", "**/ 2", "", "1/", "a"}) {
            Probe.refuses("full, tape " + tape, () -> six(tape), TwoTreesAlike::pattern, -4, true);
        }
        TwoTreesAlike x = six("10");
        Check.is("full", x.pattern(), -4);
        Check.is("six", x.count(4), 6);
        Check.is("the last of six", x.matches(5, 0, 0), 0);
        Check.is("the seventh is none", x.matches(6, 0, 0), -2);
        Check.is("dropped", x.drop(), 5);
        Check.is("the sixth is none then", x.matches(5, 0, 0), -2);
        Check.is("the tape is read now", x.pattern(), 5);
        Check.is("this one", x.matches(5, 0, 0), 1);
        Check.is("the fifth is as it was", x.matches(4, 0, 4), 0);
    }

    /** "NUMBERS (as many digits as stand there; more than 2 are too long)". */
    private static void numbersAreTwoDigits() {
        TwoTreesAlike x = new TwoTreesAlike();
        Check.is("0", Check.pattern(x, "0"), 0);
        Check.is("9", Check.pattern(x, "9"), 1);
        Check.is("00", Check.pattern(x, "00"), 2);
        Check.is("99", Check.pattern(x, "99"), 3);
        Check.is("50", Check.pattern(x, "50"), 4);
        Check.is("100", Check.pattern(x, "100"), -100);
        Check.is("001", Check.pattern(x, "001"), -100);
        Check.is("in a part behind", Check.pattern(x, "1/2/345/6"), -104);
        Check.is("in the last part", Check.pattern(x, "1/ 999"), -103);
        Check.is("of ten", Check.pattern(x, "1/4294967297"), -102);
        Check.is("behind !", Check.pattern(x, "!000"), -101);
        Check.is("two and one", Check.pattern(x, "12 3"), -103);
    }

    /** "TOKENS, each as long as can be". */
    private static void tokensAreLong() {
        TwoTreesAlike x = new TwoTreesAlike();
        x.make(0, -1, 1, -1);
        x.make(0, 0, 2, 3);
        Check.is("** is one", Check.pattern(x, "**"), 0);
        Check.is("it is not * and *", x.matches(0, 0, 1), 1);
        Check.is("*** is two", Check.pattern(x, "***"), -102);
        Check.is("**** too", Check.pattern(x, "****"), -102);
        Check.is("*** behind", Check.pattern(x, "1/***"), -104);
        Check.is("12 is one", Check.pattern(x, "12"), 1);
        Check.is("!! is two", Check.pattern(x, "!!"), -101);
        Check.is("// is two", Check.pattern(x, "1//"), -102);
        Check.is("1* is two", Check.pattern(x, "1*"), -101);
        Check.is("**1 too", Check.pattern(x, "**1"), -102);
        Check.is("*1 too", Check.pattern(x, "*1"), -101);
    }

    /** "blanks (32, 10) may stand between" TOKENS. */
    private static void blanksStandBetween() {
        TwoTreesAlike x = new TwoTreesAlike();
        Check.is("everywhere", Check.pattern(x, "\n !\n 1 \n/ \n** / \n*\n"), 0);
        Check.is("ahead", Check.pattern(x, " 1"), 1);
        Check.is("behind", Check.pattern(x, "1\n"), 2);
        Check.is("not in a number", Check.pattern(x, "1 2"), -102);
        Check.is("not in stars", Check.pattern(x, "*\n*"), -102);
        Check.is("alone", Check.pattern(x, " \n \n"), -104);
        Check.is("no pattern of it", x.count(4), 3);
    }

    /** "FAULT: .. also of a byte that begins none". */
    private static void bytesThatBeginNone() {
        int begin = 0;
        for (int v = 0; v <= 255; v++) {
            TwoTreesAlike x = new TwoTreesAlike();
            x.feed(2, '1', v, 0, 0, 0);
            boolean isBlank = v == 32 || v == 10;
            boolean isDigit = v >= '0' && v <= '9';
            int due = isBlank || isDigit ? 0 : v == '/' ? -102 : -101;
            Check.is("behind a part: byte " + v, x.pattern(), due);
            x.drop();
            x.feed(1, v, 0, 0, 0, 0);
            boolean begins = isDigit || v == '*';
            begin += begins ? 1 : 0;
            Check.is("first: byte " + v, x.pattern(), begins ? 0 : isBlank || v == '!' ? -101 : -100);
            x.drop();
        }
        Check.is("eleven can be a pattern", begin, 11);
        TwoTreesAlike x = new TwoTreesAlike();
        Check.is("behind /", Check.pattern(x, "1/\u00ff"), -102);
        Check.is("behind !", Check.pattern(x, "!?"), -101);
        Check.is("behind a fault", Check.pattern(x, "//?"), -100);
        Check.is("behind blanks", Check.pattern(x, "1  ?"), -103);
    }

    /** "PATTERN: perhaps ! , PART { / PART }, till the end." */
    private static void partsInOrder() {
        TwoTreesAlike x = new TwoTreesAlike();
        Check.is("! alone is none", Check.pattern(x, "! /1"), -102);
        Check.is("! is the first", Check.pattern(x, "1/!2"), -102);
        Check.is("! not behind", Check.pattern(x, "1/2!"), -103);
        Check.is("! once", Check.pattern(x, "! !1"), -102);
        Check.is("no / first", Check.pattern(x, "/"), -100);
        Check.is("no / twice", Check.pattern(x, "1/ /2"), -103);
        Check.is("no / last", Check.pattern(x, "1/2/"), -104);
        Check.is("no part behind a part", Check.pattern(x, "1/2 3"), -104);
        Check.is("none of stars", Check.pattern(x, "**/* 3"), -105);
        Check.is("one part", Check.pattern(x, "*"), 0);
        Check.is("one part and !", Check.pattern(x, "!*"), 1);
    }

    /** "8 PARTS at most"; "the / ahead of a 9th PART". */
    private static void eightParts() {
        TwoTreesAlike x = new TwoTreesAlike();
        Check.is("7", Check.pattern(x, "1/2/3/4/5/6/7"), 0);
        Check.is("8", Check.pattern(x, "!1/2/3/4/5/6/7/8 "), 1);
        Check.is("8 of stars", Check.pattern(x, "**/*/**/*/**/*/**/*"), 2);
        Check.is("9", Check.pattern(x, "1/2/3/4/5/6/7/8/9"), -115);
        Check.is("9 and !", Check.pattern(x, "!1/2/3/4/5/6/7/8/9"), -116);
        Check.is("9 of stars", Check.pattern(x, "**/*/**/*/**/*/**/* / **"), -120);
        Check.is("a 9th that is too long", Check.pattern(x, "1/2/3/4/5/6/7/8/999"), -115);
        Check.is("a 9th that is none", Check.pattern(x, "1/2/3/4/5/6/7/8/a"), -115);
        Check.is("an 8th that is too long", Check.pattern(x, "1/2/3/4/5/6/7/888"), -114);
        Check.is("no 8th", Check.pattern(x, "1/2/3/4/5/6/7/"), -114);
        Check.is("a part behind the 8th", Check.pattern(x, "1/2/3/4/5/6/7/8 9"), -116);
        Check.is("10", Check.pattern(x, "1/2/3/4/5/6/7/8/9/10"), -115);
    }

    /** "FAULT: .. (the text's size, if it ends too early)". */
    private static void textsThatEndTooEarly() {
        TwoTreesAlike x = new TwoTreesAlike();
        Check.is("nothing", x.pattern(), -100);
        Check.is("a blank", Check.pattern(x, " "), -101);
        Check.is("!", Check.pattern(x, "!"), -101);
        Check.is("! and blanks", Check.pattern(x, "! \n"), -103);
        Check.is("/", Check.pattern(x, "12/"), -103);
        Check.is("/ and blanks", Check.pattern(x, "12/  "), -105);
        Check.is("40 blanks", Check.pattern(x, " ".repeat(40)), -140);
        Check.is("39 blanks", Check.pattern(x, " ".repeat(39)), -139);
    }

    private static void theFirstFaultCounts() {
        TwoTreesAlike x = new TwoTreesAlike();
        Check.is("two long ones", Check.pattern(x, "1/222/333"), -102);
        Check.is("a long one where none can stand", Check.pattern(x, "1 222"), -102);
        Check.is("a byte ahead of an end", Check.pattern(x, "1/?/"), -102);
        Check.is("an end behind nothing wrong", Check.pattern(x, "1/2/"), -104);
        Check.is("none came to be", x.count(4), 0);
    }

    /** "THE TAPE, which is empty then (by a FAULT, too)". */
    private static void theTapeIsEmptyThen() {
        TwoTreesAlike x = new TwoTreesAlike();
        Check.pattern(x, "12/34");
        Check.is("by a pattern", x.count(5), 0);
        Check.is("what comes stands first", Check.pattern(x, "a"), -100);
        Check.is("by a fault", x.count(5), 0);
        Check.is("nothing of it is left", x.feed(1, '7', 0, 0, 0, 0), 1);
        Check.is("but that", x.pattern(), 1);
        x.make(0, -1, 7, 0);
        Check.is("it is 7", x.matches(1, 0, 0), 1);
    }

    private static void dropRefuses() {
        Probe.refuses("none", () -> {
            TwoTreesAlike x = Probe.busy();
            x.drop();
            x.drop();
            return x;
        }, TwoTreesAlike::drop, -3, true);
        TwoTreesAlike x = Probe.busy();
        Check.is("one is left", x.drop(), 1);
        Check.is("none is left", x.drop(), 0);
        Check.is("none", x.count(4), 0);
        Check.is("the tape stays", x.count(5), 4);
        Check.is("the image has one", x.back(), 5);
        Check.is("it is dropped", x.drop(), 0);
    }

    private static void matchesRefuses() {
        int[][] all = {
            {-1, 0, 0}, {2, 0, 0}, {MIN, 0, 0}, {MAX, 0, 0}, {0, -1, 0}, {0, 3, 0}, {0, MIN, 0}, {0, MAX, 0},
            {0, 0, -1}, {0, 0, 7}, {0, 0, MIN}, {0, 0, MAX},
            // ahead of STATE
            {2, 0, 3}, {-1, 0, 6}, {0, 3, 3}, {6, 0, 3},
        };
        for (int[] a : all) {
            Probe.refuses("matches " + a[0] + " " + a[1] + " " + a[2], x -> x.matches(a[0], a[1], a[2]), -2);
        }
        Probe.refuses("gone", x -> x.matches(0, 0, 3), -3);
        Probe.refuses("never there", x -> x.matches(1, 0, 6), -3);
        Probe.refuses("not in last", x -> x.matches(1, 2, 6), -3);
    }

    /** "a NUMBER (just that NAME)". */
    private static void aNumberIsJustThatName() {
        TwoTreesAlike x = new TwoTreesAlike();
        int[] names = {0, 1, 9, 10, 11, 48, 49};
        for (int i = 0; i < names.length; i++) {
            x.make(0, -1, names[i], 5);
        }
        for (String text : new String[] {"0", "00", "1", "01", "9", "09", "10", "11", "48", "49", "50", "90", "99"}) {
            Check.pattern(x, text);
            for (int i = 0; i < names.length; i++) {
                Check.is(text + " of " + names[i], x.matches(0, 0, i), Integer.parseInt(text) == names[i] ? 1 : 0);
            }
            x.drop();
        }
    }

    /** Of THINGS 0 .. 4, each in the one before (NAMES 1 .. 5), which PATHS are matched. */
    private static void matchesAre(String text, int... due) {
        TwoTreesAlike x = new TwoTreesAlike();
        for (int i = 0; i < 5; i++) {
            x.make(1, i - 1, i + 1, -1);
        }
        Check.is("pattern " + text, Check.pattern(x, text), 0);
        for (int i = 0; i < 5; i++) {
            Check.is(text + " of a path of " + (i + 1), x.matches(0, 1, i), due[i]);
        }
    }

    /** "* (any one NAME)". */
    private static void starsStandForNames() {
        matchesAre("*", 1, 0, 0, 0, 0);
        matchesAre("*/*", 0, 1, 0, 0, 0);
        matchesAre("*/*/*/*/*", 0, 0, 0, 0, 1);
        matchesAre("*/2", 0, 1, 0, 0, 0);
        matchesAre("1/*", 0, 1, 0, 0, 0);
        matchesAre("1/*/3", 0, 0, 1, 0, 0);
        matchesAre("1/*/2", 0, 0, 0, 0, 0);
        matchesAre("!*", 1, 0, 0, 0, 0);
    }

    /** "** (any NAMES, or none)". */
    private static void doubleStarsStandForNone() {
        matchesAre("**", 1, 1, 1, 1, 1);
        matchesAre("**/**/**/**/**/**/**/**", 1, 1, 1, 1, 1);
        matchesAre("**/1", 1, 0, 0, 0, 0);
        matchesAre("1/**", 1, 1, 1, 1, 1);
        matchesAre("**/1/**", 1, 1, 1, 1, 1);
        matchesAre("1/**/2", 0, 1, 0, 0, 0);
        matchesAre("1/**/5", 0, 0, 0, 0, 1);
        matchesAre("1/**/**/2", 0, 1, 0, 0, 0);
        matchesAre("1/**/*", 0, 1, 1, 1, 1);
        matchesAre("*/**/*", 0, 1, 1, 1, 1);
        matchesAre("**/*", 1, 1, 1, 1, 1);
        matchesAre("**/*/*/*", 0, 0, 1, 1, 1);
        matchesAre("**/3/**", 0, 0, 1, 1, 1);
        matchesAre("**/3/*", 0, 0, 0, 1, 0);
        matchesAre("**/2/**/4/**", 0, 0, 0, 1, 1);
        matchesAre("**/4/**/2", 0, 0, 0, 0, 0);
        matchesAre("2/**", 0, 0, 0, 0, 0);
        matchesAre("**/6", 0, 0, 0, 0, 0);
        // the NAMES that a ** leaves may be those that the next PART could have stood for
        TwoTreesAlike x = new TwoTreesAlike();
        for (int i = 0; i < 5; i++) {
            x.make(0, i - 1, 1 + i % 2, -1);
        }
        Check.pattern(x, "**/1/2");
        int[] due = {0, 1, 0, 1, 0};
        for (int i = 0; i < 5; i++) {
            Check.is("1/2/1/2/1, up to " + i, x.matches(0, 0, i), due[i]);
        }
    }

    /** "It MATCHES a PATH, if PARTS, in order, stand for all its NAMES." */
    private static void partsStandForAllNames() {
        matchesAre("1", 1, 0, 0, 0, 0);
        matchesAre("2", 0, 0, 0, 0, 0);
        matchesAre("5", 0, 0, 0, 0, 0);
        matchesAre("1/2", 0, 1, 0, 0, 0);
        matchesAre("2/1", 0, 0, 0, 0, 0);
        matchesAre("1/2/3/4/5", 0, 0, 0, 0, 1);
        matchesAre("1/2/3/4/5/6", 0, 0, 0, 0, 0);
        matchesAre("2/3/4/5", 0, 0, 0, 0, 0);
        TwoTreesAlike x = new TwoTreesAlike();
        for (int i = 0; i < 30; i++) {
            x.make(0, i - 1, i, -1);
        }
        String[] texts = {"**/29", "0/**/15/**/29", "0/1/2/3/4/5/6/7", "**/22/23/24/25/26/27/28", "*/*/*/*/*/*/*/*"};
        int[][] due = {{29}, {29}, {7}, {28}, {7}};
        for (int k = 0; k < texts.length; k++) {
            Check.pattern(x, texts[k]);
            for (int i = 0; i < 30; i++) {
                Check.is(texts[k] + " of " + i, x.matches(0, 0, i), i == due[k][0] ? 1 : 0);
            }
            x.drop();
        }
    }

    private static void thePathIsOfThatSide() {
        TwoTreesAlike x = new TwoTreesAlike();
        x.make(0, -1, 1, -1);
        x.make(0, 0, 2, 5);
        x.sync();
        x.move(0, 1, -1, 3);
        x.move(1, 0, -1, 4);
        String[] texts = {"3", "4/2", "1/2"};
        for (int side = 0; side < 3; side++) {
            Check.pattern(x, texts[side]);
            for (int other = 0; other < 3; other++) {
                Check.is(texts[side], x.matches(side, other, 1), side == other ? 1 : 0);
            }
        }
    }

    /** Of THINGS with PATHS 1, 1/2, 1/2/3, whether they are IGNORED there. */
    private static void ignoredAre(String patterns, int a, int b, int c) {
        TwoTreesAlike x = new TwoTreesAlike();
        x.make(1, -1, 1, -1);
        x.make(1, 0, 2, -1);
        x.make(1, 1, 3, 5);
        for (String pattern : patterns.split(" ")) {
            Check.holds("a pattern", Check.pattern(x, pattern) >= 0);
        }
        Check.is(patterns + ": 1", x.told(1, 0, 7), a);
        Check.is(patterns + ": 1/2", x.told(1, 1, 7), b);
        Check.is(patterns + ": 1/2/3", x.told(1, 2, 7), c);
    }

    /** "for the innermost of these PATHS that any MATCHES". */
    private static void theInnermostDecides() {
        ignoredAre("1", 1, 1, 1);
        ignoredAre("1/2", 0, 1, 1);
        ignoredAre("1/2/3", 0, 0, 1);
        ignoredAre("2", 0, 0, 0);
        ignoredAre("!1", 0, 0, 0);
        ignoredAre("1 !1/2", 1, 0, 0);
        ignoredAre("!1/2 1", 1, 0, 0);
        ignoredAre("1 !1/2/3", 1, 1, 0);
        ignoredAre("1 !1/2 1/2/3", 1, 0, 1);
        ignoredAre("1/2/3 !1/2 1", 1, 0, 1);
        ignoredAre("1/2 !1", 0, 1, 1);
        ignoredAre("!1/2/3 **/2", 0, 1, 0);
        ignoredAre("1/** !1/2", 1, 0, 1);
    }

    /** "the last such PATTERN decides: it is IGNORED, unless that one has a !". */
    private static void theLastOneDecides() {
        ignoredAre("1 !1", 0, 0, 0);
        ignoredAre("!1 1", 1, 1, 1);
        ignoredAre("1 !1 1", 1, 1, 1);
        ignoredAre("!1 1 !1", 0, 0, 0);
        ignoredAre("** !*", 0, 1, 1);
        ignoredAre("!* **", 1, 1, 1);
        ignoredAre("** !**", 0, 0, 0);
        ignoredAre("1 1 1 1 1 !1", 0, 0, 0);
        ignoredAre("!1 !1 !1 !1 !1 1", 1, 1, 1);
        ignoredAre("** !**/3 7", 1, 1, 0);
    }

    private static void whoIsNotThereIsNotIgnored() {
        TwoTreesAlike x = new TwoTreesAlike();
        x.make(0, -1, 1, 5);
        Check.pattern(x, "**");
        Check.is("here", x.told(0, 0, 7), 1);
        Check.is("not there", x.told(1, 0, 7), 0);
        Check.is("nor in last", x.told(2, 0, 7), 0);
        Check.is("at all, asked of the other side", x.told(1, 0, 8), 1);
        x.remove(0, 0);
        Check.is("removed", x.told(0, 0, 7), 0);
        Check.is("not at all", x.told(0, 0, 8), 0);
    }

    /** "IGNORED at all is a THING that is so on a SIDE or in LAST". */
    private static void ignoredAtAllByOneTree() {
        for (int tree = 0; tree < 3; tree++) {
            TwoTreesAlike x = new TwoTreesAlike();
            x.make(0, -1, 10, 5);
            x.make(0, -1, 20, 5);
            x.sync();
            x.move(0, 0, -1, 11);
            x.move(1, 0, -1, 12);
            Check.pattern(x, tree == 2 ? "10" : tree == 0 ? "11" : "12");
            for (int side = 0; side < 3; side++) {
                Check.is("there", x.told(side, 0, 7), side == tree ? 1 : 0);
                Check.is("at all", x.told(side, 0, 8), 1);
                Check.is("not changed then", x.told(side, 0, 6), 0);
                Check.is("another one isn't", x.told(side, 1, 8), 0);
            }
            Check.is("not in target", x.target(0, 2), -1);
            x.drop();
            Check.is("not at all", x.told(0, 0, 8), 0);
            Check.is("changed", x.told(0, 0, 6), 4);
        }
    }

    /** FOLDER 1 stands in 0, and 2 in 1, on one SIDE or in LAST alone; else they are in THE ROOT. */
    private static TwoTreesAlike standingIn(int tree) {
        TwoTreesAlike x = new TwoTreesAlike();
        x.make(0, -1, 10, -1);
        x.make(0, -1, 20, -1);
        x.make(0, -1, 30, 5);
        x.make(0, -1, 40, 5);
        boolean isLast = tree == 2;
        if (isLast) {
            x.move(0, 1, 0, 20);
            x.move(0, 2, 1, 30);
        }
        x.sync();
        for (int side = 0; side < 2; side++) {
            if (isLast || side == tree) {
                x.move(side, 1, isLast ? -1 : 0, 20);
                x.move(side, 2, isLast ? -1 : 1, 30);
            }
        }
        return x;
    }

    /** "and each that stands on a SIDE or in LAST in a FOLDER that is IGNORED at all". */
    private static void ignoredAtAllByFolders() {
        for (int tree = 0; tree < 3; tree++) {
            TwoTreesAlike x = standingIn(tree);
            Check.pattern(x, "10");
            Check.pattern(x, "!10/20");
            for (int side = 0; side < 3; side++) {
                Check.is("the folder", x.told(side, 0, 7), 1);
                Check.is("not what stands in it", x.told(side, 1, 7), 0);
                Check.is("nor what stands in that", x.told(side, 2, 7), 0);
                Check.is("but at all", x.told(side, 1, 8), 1);
                Check.is("and so on", x.told(side, 2, 8), 1);
                Check.is("in none of them", x.told(side, 3, 8), 0);
            }
        }
        TwoTreesAlike x = new TwoTreesAlike();
        x.make(0, -1, 10, -1);
        x.make(0, 0, 20, 5);
        x.make(0, -1, 30, 5);
        Check.pattern(x, "10/20");
        Check.is("not the folder of one that is", x.told(0, 0, 8), 0);
        Check.is("nor one beside", x.told(0, 2, 8), 0);
    }

    /** On SIDE 0 each of thirty stands in the one of the next number, else all stand in THE ROOT. */
    private static void thirtyAreIgnored() {
        TwoTreesAlike x = new TwoTreesAlike();
        for (int i = 0; i < 30; i++) {
            x.make(0, -1, i, -1);
        }
        x.sync();
        for (int i = 0; i < 29; i++) {
            x.move(0, i, i + 1, i);
        }
        Check.pattern(x, "29");
        Check.pattern(x, "!29/28");
        for (int i = 0; i < 30; i++) {
            for (int side = 0; side < 3; side++) {
                Check.is("by its path", x.told(side, i, 7), i == 29 ? 1 : 0);
                Check.is("by its folder", x.told(side, i, 8), 1);
            }
        }
        Check.is("nothing to do", x.sync(), 0);
        Check.pattern(x, "!29");
        Check.is("none is ignored", x.told(0, 29, 8) + x.told(0, 0, 8), 0);
        Check.is("29 are to be moved", x.sync(), 2 * 29);
        for (int i = 0; i < 3; i++) {
            x.drop();
        }
        Check.pattern(x, "29/**/0");
        Check.is("the deepest", x.told(0, 0, 7), 1);
        Check.is("not the one above it", x.told(0, 1, 8), 0);
        TwoTreesAlike y = new TwoTreesAlike();
        for (int i = 0; i < 30; i++) {
            y.make(1, i - 1, i, -1);
        }
        Check.pattern(y, "0");
        Check.pattern(y, "!0/1");
        Check.is("not by its path", y.told(1, 29, 7), 0);
        Check.is("by the folder of the folder and so on", y.told(1, 29, 8), 1);
    }
}
