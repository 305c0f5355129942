import java.lang.reflect.Method;
import java.lang.reflect.Modifier;
import java.util.ArrayList;
import java.util.Arrays;
import java.util.Comparator;
import java.util.List;

/**
 * Each call with each two of its arguments at all edges that any number of the document has, on an object that has
 * something of all: what it answers, and what can be asked then, is as Model says. So no call ever throws, and of two
 * refusals the one comes first that should.
 */
public final class SweepTest {
    private static final int[] EDGES = {
        Integer.MIN_VALUE, -32769, -15, -3, -2, -1, 0, 1, 2, 3, 4, 5, 6, 7, 8, 10, 11, 12, 20, 21, 29, 30, 31, 39, 40, 41,
        49, 50, 255, 256, 999, 1000, 65536, Integer.MAX_VALUE,
    };

    // what the other arguments are: what no call refuses at once
    private static final int[][] PLAIN = {{0, 1, 2, 0, 1, 0}, {1, 0, -1, 1, 0, 1}};

    // calls that change SHEETS alone
    private static final List<String> SHEETS = List.of("film", "sheet", "cell", "copy");

    private final Pair pair;
    private final String name;

    private SweepTest(String name, boolean isFull) {
        this.name = name;
        pair = new Pair(name);
        // the same as Probe.busy(), on both
        int[][] things = {{0, -1, 10, 9}, {0, -1, 11, -1}, {0, 1, 12, -1}, {0, 2, 13, 5}, {0, 1, 14, 6}};
        for (int[] a : things) {
            both("make", a);
        }
        both("sync");
        pattern("10/9");
        both("prefer", 1);
        both("image");
        both("prefer", 0);
        both("write", 0, 0, 7);
        both("write", 1, 0, 8);
        both("remove", 0, 3);
        both("remove", 1, 4);
        both("make", 0, 2, 15, 4);
        both("make", 1, -1, 16, -1);
        pattern("!**/17");
        both("feed", 3, '1', '1', '/', 0, 0);
        both("film", 0, 0, 30);
        both("sheet", 1, 0, 40);
        both("sheet", 2, 1, 0);
        for (int i = 7; i < 30 && isFull; i++) {
            both("make", i % 2, -1, 10 + i, i % 3 - 1);
        }
    }

    public static void main(String[] args) {
        List<Method> face = new ArrayList<>();
        for (Method method : TwoTreesAlike.class.getDeclaredMethods()) {
            if (Modifier.isPublic(method.getModifiers())) {
                face.add(method);
            }
        }
        face.sort(Comparator.comparing(Method::getName));
        for (Method method : face) {
            for (int[] plain : PLAIN) {
                sweep(method, plain, method.getName().equals("make") && plain[0] == 1);
            }
        }
        Check.end("SweepTest");
    }

    private static void sweep(Method method, int[] plain, boolean isFull) {
        int n = method.getParameterCount();
        int[] args = Arrays.copyOf(plain, n);
        SweepTest test = new SweepTest(method.getName() + " " + Arrays.toString(plain), isFull);
        test.both(method.getName(), args);
        for (int i = 0; i < n; i++) {
            for (int a : EDGES) {
                test = new SweepTest(test.name, isFull);
                for (int j = i == n - 1 ? i : i + 1; j < n; j++) {
                    for (int b : EDGES) {
                        int[] these = args.clone();
                        these[j] = b;
                        these[i] = a;
                        if (test.isSpent(method, these)) {
                            test = new SweepTest(test.name, isFull);
                        }
                    }
                }
            }
        }
    }

    /** Makes the call; whether the object is to be made anew: it is another now, or has had most of its 512 calls. */
    private boolean isSpent(Method method, int[] args) {
        int answer = both(method.getName(), args);
        if (Pair.ASKING.contains(method.getName())) {
            return pair.calls() > 450;
        }
        for (int what = 0; what <= 6; what++) {
            both("count", what);
        }
        boolean isOnSheets = SHEETS.contains(method.getName());
        for (int what = 0; what <= 2; what++) {
            both(isOnSheets ? "tells" : "latest", isOnSheets ? new int[] {what, 0, 0} : new int[] {what});
        }
        if (answer >= 0 && !isOnSheets) {
            for (int what = 0; what <= 3; what++) {
                both("would", what);
            }
        }
        return answer >= -1 || pair.calls() > 450;
    }

    private void pattern(String text) {
        for (int i = 0; i < text.length(); i++) {
            both("feed", 1, text.charAt(i), 0, 0, 0, 0);
        }
        both("pattern");
    }

    private int both(String call, int... args) {
        return pair.call(call, args);
    }
}
