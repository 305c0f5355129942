/** Promises 10 to 13: patterns. */
public final class PatternsTest {
    public static void main(String[] args) {
        feedCounts();
        feedRefuses();
        patternsAreRead();
        faultsAreFound();
        patternsAreFull();
        dropDrops();
        matchesPaths();
        matchesRefuses();
        Check.end("PatternsTest");
    }

    private static void feedCounts() {
        TwoTreesAlike x = new TwoTreesAlike();
        Check.is("one", x.feed(1, 49, 0, 0, 0, 0), 1);
        Check.is("five", x.feed(5, 255, 0, 32, 10, 7), 6);
        Check.is("bytes", x.count(5), 6);
        Check.is("the order of bytes", x.pattern(), -101);
        x.feed(4, 49, 47, 42, 33, 47);
        Check.is("just as many", x.pattern(), -103);
        for (int n = 1; n <= 5; n++) {
            Check.is("n", x.feed(n, 49, 47, 50, 47, 51), n);
            Check.is("n bytes", x.pattern(), n % 2 == 0 ? -100 - n : n / 2);
        }
    }

    private static void feedRefuses() {
        TwoTreesAlike x = new TwoTreesAlike();
        Check.is("0", x.feed(0, 0, 0, 0, 0, 0), -2);
        Check.is("6", x.feed(6, 0, 0, 0, 0, 0), -2);
        Check.is("a", x.feed(1, 256, 0, 0, 0, 0), -2);
        Check.is("b", x.feed(1, 0, -1, 0, 0, 0), -2);
        Check.is("c", x.feed(1, 0, 0, 256, 0, 0), -2);
        Check.is("d", x.feed(1, 0, 0, 0, 256, 0), -2);
        Check.is("e", x.feed(1, 0, 0, 0, 0, -1), -2);
        for (int i = 0; i < 7; i++) {
            x.feed(5, 32, 32, 32, 32, 32);
        }
        Check.is("37", x.feed(2, 32, 32, 0, 0, 0), 37);
        Check.is("no room", x.feed(4, 32, 32, 32, 32, 32), -4);
        Check.is("bad ahead of full", x.feed(4, 32, 32, 32, 32, 256), -2);
        Check.is("it stays", x.count(5), 37);
        Check.is("40", x.feed(3, 32, 32, 32, 0, 0), 40);
        Check.is("full", x.feed(1, 32, 0, 0, 0, 0), -4);
        Check.is("too early", x.pattern(), -140);
        Check.is("empty", x.count(5), 0);
    }

    private static void patternsAreRead() {
        TwoTreesAlike x = new TwoTreesAlike();
        Check.is("name", Check.pattern(x, "7"), 0);
        Check.is("empty then", x.count(5), 0);
        Check.is("not", Check.pattern(x, "!7"), 1);
        Check.is("blanks", Check.pattern(x, " \n! 07 /\n** / * "), 2);
        Check.is("eight", Check.pattern(x, "1/2/3/4/5/6/7/8"), 3);
        Check.is("99", Check.pattern(x, "99"), 4);
        Check.is("patterns", x.count(4), 5);
    }

    private static void faultsAreFound() {
        TwoTreesAlike x = new TwoTreesAlike();
        Check.is("empty", Check.pattern(x, ""), -100);
        Check.is("blanks", Check.pattern(x, "  "), -102);
        Check.is("!", Check.pattern(x, "!"), -101);
        Check.is("! twice", Check.pattern(x, "!!1"), -101);
        Check.is("! behind", Check.pattern(x, "1!"), -101);
        Check.is("/ first", Check.pattern(x, "/1"), -100);
        Check.is("/ last", Check.pattern(x, "1/ "), -103);
        Check.is("/ twice", Check.pattern(x, "1//2"), -102);
        Check.is("two parts", Check.pattern(x, "1 2"), -102);
        Check.is("***", Check.pattern(x, "***"), -102);
        Check.is("* *", Check.pattern(x, "* *"), -102);
        Check.is("a byte behind another fault", Check.pattern(x, "a"), -100);
        Check.is("*1", Check.pattern(x, "*1"), -101);
        Check.is("1*", Check.pattern(x, "1*"), -101);
        Check.is("long", Check.pattern(x, "1/ 234"), -103);
        Check.is("long of zeros", Check.pattern(x, "000"), -100);
        Check.is("byte", Check.pattern(x, "1/a"), -102);
        Check.is("tab", Check.pattern(x, "1\t"), -101);
        Check.is("byte 255", Check.pattern(x, "12\u00ff"), -102);
        Check.is("ninth", Check.pattern(x, "1/2/3/4/5/6/7/8 /9"), -116);
        Check.is("ninth, cut off", Check.pattern(x, "1/2/3/4/5/6/7/8/"), -115);
        Check.is("none came", x.count(4), 0);
        Check.is("the tape is empty", x.count(5), 0);
    }

    private static void patternsAreFull() {
        TwoTreesAlike x = new TwoTreesAlike();
        for (int i = 0; i < 6; i++) {
            Check.is("pattern", Check.pattern(x, "1"), i);
        }
        Check.is("full", Check.pattern(x, "1/"), -4);
        Check.is("the tape stays", x.count(5), 2);
        x.drop();
        Check.is("and is read then", x.pattern(), -102);
    }

    private static void dropDrops() {
        TwoTreesAlike x = new TwoTreesAlike();
        Check.is("none", x.drop(), -3);
        Check.pattern(x, "1");
        Check.pattern(x, "2");
        x.make(0, -1, 1, 5);
        Check.is("the latest", x.drop(), 1);
        Check.is("the first stays", x.told(0, 0, 7), 1);
        Check.is("number", Check.pattern(x, "3"), 1);
        x.drop();
        Check.is("the first", x.drop(), 0);
        Check.is("not ignored", x.told(0, 0, 7), 0);
        Check.is("none again", x.drop(), -3);
    }

    private static void matchesPaths() {
        TwoTreesAlike x = new TwoTreesAlike();
        x.make(0, -1, 1, -1);
        x.make(0, 0, 2, -1);
        x.make(0, 1, 3, 9);
        // of things 0 (path 1), 1 (path 1/2), 2 (path 1/2/3)
        matchesAre(x, "1", 1, 0, 0);
        matchesAre(x, "01", 1, 0, 0);
        matchesAre(x, "3", 0, 0, 0);
        matchesAre(x, "*", 1, 0, 0);
        matchesAre(x, "!*/*", 0, 1, 0);
        matchesAre(x, "**", 1, 1, 1);
        matchesAre(x, "1/**", 1, 1, 1);
        matchesAre(x, "**/3", 0, 0, 1);
        matchesAre(x, "1/**/3", 0, 0, 1);
        matchesAre(x, "1/2/**/3", 0, 0, 1);
        matchesAre(x, "**/2/**", 0, 1, 1);
        matchesAre(x, "**/*/**", 1, 1, 1);
        matchesAre(x, "**/*/**/*", 0, 1, 1);
        matchesAre(x, "*/*/*/*", 0, 0, 0);
        matchesAre(x, "**/**", 1, 1, 1);
        matchesAre(x, "1/3", 0, 0, 0);
        matchesAre(x, "**/1/**/2/**/3/**", 0, 0, 1);
    }

    private static void matchesAre(TwoTreesAlike x, String text, int a, int b, int c) {
        Check.pattern(x, text);
        Check.is(text + " of 1", x.matches(0, 0, 0), a);
        Check.is(text + " of 1/2", x.matches(0, 0, 1), b);
        Check.is(text + " of 1/2/3", x.matches(0, 0, 2), c);
        x.drop();
    }

    private static void matchesRefuses() {
        TwoTreesAlike x = new TwoTreesAlike();
        x.make(0, -1, 1, -1);
        Check.is("no pattern", x.matches(0, 0, 0), -2);
        Check.pattern(x, "1");
        Check.is("pattern -1", x.matches(-1, 0, 0), -2);
        Check.is("pattern 1", x.matches(1, 0, 0), -2);
        Check.is("side", x.matches(0, 3, 0), -2);
        Check.is("thing", x.matches(0, 0, 1), -2);
        Check.is("not there", x.matches(0, 1, 0), -3);
        Check.is("not in last", x.matches(0, 2, 0), -3);
        x.drop();
        x.sync();
        Check.pattern(x, "1");
        Check.is("in last", x.matches(0, 2, 0), 1);
    }
}
