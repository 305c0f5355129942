/** Counts the answers that are not as due. */
final class Check {
    private static int checked = 0;
    private static int wrong = 0;

    private Check() {
    }

    static void is(String what, int got, int due) {
        checked++;
        if (got != due) {
            wrong++;
            System.out.println(what + ": " + got + ", due is " + due);
        }
    }

    static void holds(String what, boolean isSo) {
        is(what, isSo ? 1 : 0, 1);
    }

    /** Feeds a text to THE TAPE. */
    static void feed(TwoTreesAlike x, String text) {
        for (int i = 0; i < text.length(); i++) {
            x.feed(1, text.charAt(i), 0, 0, 0, 0);
        }
    }

    /** What pattern() answers for a text on an empty TAPE. */
    static int pattern(TwoTreesAlike x, String text) {
        feed(x, text);
        return x.pattern();
    }

    static void end(String test) {
        System.out.println(test + ": " + checked + " answers, " + wrong + " wrong");
        if (wrong != 0 || checked == 0) {
            System.exit(1);
        }
    }
}
