import java.lang.reflect.Array;
import java.math.BigInteger;
import java.util.ArrayList;
import java.util.HashSet;
import java.util.List;
import java.util.Set;
import java.util.TreeMap;
import java.util.TreeSet;

/**
 * The document told a second time, with the Java library and without care for speed, so that OracleTest can
 * compare: trees are maps, PATTERNS regular expressions over paths like "/1/22".
 */
final class Model {
    record Node(int folder, int name, int content) {
    }

    record Rule(String expression, boolean isNot) {
    }

    /** What TARGET is, and the CLASHES {kind, thing}. */
    static final class Outcome {
        final TreeMap<Integer, Node> target = new TreeMap<>();
        final List<int[]> clashes = new ArrayList<>();
        int total;
    }

    /** All that an image keeps. */
    static final class Kept {
        List<Boolean> folders = new ArrayList<>();
        List<TreeMap<Integer, Node>> trees = List.of(new TreeMap<>(), new TreeMap<>(), new TreeMap<>());
        List<Rule> rules = new ArrayList<>();
        int prefer = 0;
        int[] latest = {0, -1, 0};

        Kept twin() {
            Kept k = new Kept();
            k.folders = new ArrayList<>(folders);
            k.trees = List.of(new TreeMap<>(trees.get(0)), new TreeMap<>(trees.get(1)), new TreeMap<>(trees.get(2)));
            k.rules = new ArrayList<>(rules);
            k.prefer = prefer;
            k.latest = latest.clone();
            return k;
        }
    }

    Kept now = new Kept();
    Kept image = null;
    String tape = "";

    private TreeMap<Integer, Node> tree(int side) {
        return now.trees.get(side);
    }

    private boolean noSide(int side) {
        return side != 0 && side != 1;
    }

    private boolean noTree(int side) {
        return side < 0 || side > 2;
    }

    private boolean noThing(int thing) {
        return thing < 0 || thing >= now.folders.size();
    }

    private int latestIs(int answer, int refused, int by, int steps) {
        now.latest = new int[] {refused, by, steps};
        return answer;
    }

    private boolean noFolderThere(int side, int folder) {
        return folder != -1 && !(tree(side).containsKey(folder) && now.folders.get(folder));
    }

    static int lookFor(TreeMap<Integer, Node> tree, int folder, int name) {
        for (var e : tree.entrySet()) {
            if (e.getValue().folder == folder && e.getValue().name == name) {
                return e.getKey();
            }
        }
        return -1;
    }

    /** The thing and all above it, itself first; ends where a ring closes. */
    static List<Integer> upFrom(TreeMap<Integer, Node> tree, int thing) {
        List<Integer> way = new ArrayList<>();
        int at = thing;
        while (at != -1 && tree.containsKey(at) && !way.contains(at)) {
            way.add(at);
            at = tree.get(at).folder;
        }
        return way;
    }

    static Set<Integer> inner(TreeMap<Integer, Node> tree, int of) {
        Set<Integer> all = new TreeSet<>();
        for (int thing : tree.keySet()) {
            if (thing != of && upFrom(tree, thing).contains(of)) {
                all.add(thing);
            }
        }
        return all;
    }

    int make(int side, int folder, int name, int content) {
        if (noSide(side) || (folder != -1 && noThing(folder)) || name < 0 || name > 49 || content < -1 || content > 999) {
            return latestIs(-2, -2, -1, 0);
        }
        if (noFolderThere(side, folder)) {
            return latestIs(-3, -3, folder, 0);
        }
        if (now.folders.size() == 30) {
            return latestIs(-4, -4, -1, 0);
        }
        int other = lookFor(tree(side), folder, name);
        if (other != -1) {
            return latestIs(-6, -6, other, 0);
        }
        now.folders.add(content == -1);
        int thing = now.folders.size() - 1;
        tree(side).put(thing, new Node(folder, name, content == -1 ? 0 : content));
        return latestIs(thing, 0, -1, 0);
    }

    int write(int side, int thing, int v) {
        if (noSide(side) || noThing(thing) || v < 0 || v > 999) {
            return latestIs(-2, -2, -1, 0);
        }
        Node node = tree(side).get(thing);
        if (node == null) {
            return latestIs(-3, -3, thing, 0);
        }
        if (now.folders.get(thing)) {
            return latestIs(-13, -13, -1, 0);
        }
        tree(side).put(thing, new Node(node.folder, node.name, v));
        return latestIs(node.content, 0, -1, 0);
    }

    int move(int side, int thing, int folder, int name) {
        if (noSide(side) || noThing(thing) || (folder != -1 && noThing(folder)) || name < 0 || name > 49) {
            return latestIs(-2, -2, -1, 0);
        }
        if (!tree(side).containsKey(thing)) {
            return latestIs(-3, -3, thing, 0);
        }
        if (noFolderThere(side, folder)) {
            return latestIs(-3, -3, folder, 0);
        }
        int steps = upFrom(tree(side), folder).indexOf(thing);
        if (steps >= 0) {
            return latestIs(-7, -7, folder, steps);
        }
        int other = lookFor(tree(side), folder, name);
        if (other != -1 && other != thing) {
            return latestIs(-6, -6, other, 0);
        }
        tree(side).put(thing, new Node(folder, name, tree(side).get(thing).content));
        return latestIs(1, 0, -1, 0);
    }

    int remove(int side, int thing) {
        if (noSide(side) || noThing(thing)) {
            return latestIs(-2, -2, -1, 0);
        }
        if (!tree(side).containsKey(thing)) {
            return latestIs(-3, -3, thing, 0);
        }
        Set<Integer> all = inner(tree(side), thing);
        all.add(thing);
        tree(side).keySet().removeAll(all);
        return latestIs(all.size(), 0, -1, 0);
    }

    static String path(TreeMap<Integer, Node> tree, int thing) {
        StringBuilder text = new StringBuilder();
        for (int at : upFrom(tree, thing)) {
            text.insert(0, "/" + tree.get(at).name);
        }
        return text.toString();
    }

    boolean ignoredThere(int side, int thing) {
        for (int at : upFrom(tree(side), thing)) {
            for (int i = now.rules.size() - 1; i >= 0; i--) {
                if (path(tree(side), at).matches(now.rules.get(i).expression)) {
                    return !now.rules.get(i).isNot;
                }
            }
        }
        return false;
    }

    Set<Integer> ignoredAtAll() {
        Set<Integer> all = new HashSet<>();
        for (int side = 0; side < 3; side++) {
            for (int thing : tree(side).keySet()) {
                if (ignoredThere(side, thing)) {
                    all.add(thing);
                }
            }
        }
        int before;
        do {
            before = all.size();
            for (int side = 0; side < 3; side++) {
                for (int thing : tree(side).keySet()) {
                    if (all.contains(tree(side).get(thing).folder)) {
                        all.add(thing);
                    }
                }
            }
        } while (all.size() > before);
        return all;
    }

    int changed(Set<Integer> ignored, int side, int thing) {
        if (ignored.contains(thing)) {
            return 0;
        }
        Node is = tree(side).get(thing);
        Node was = tree(2).get(thing);
        if (was == null) {
            return is == null ? 0 : 1;
        }
        if (is == null) {
            return 2;
        }
        return (is.folder != was.folder || is.name != was.name ? 4 : 0) + (is.content != was.content ? 8 : 0);
    }

    int told(int side, int thing, int what) {
        if (noTree(side) || noThing(thing) || what < 0 || what > 9) {
            return -2;
        }
        Node node = tree(side).get(thing);
        switch (what) {
            case 0: return node == null ? 0 : 1;
            case 1: return node == null ? -1 : node.folder;
            case 2: return node == null ? -1 : node.name;
            case 3: return node == null ? -1 : node.content;
            case 4: return inner(tree(side), thing).size();
            case 5: return upFrom(tree(side), thing).size() - 1;
            case 6: return side == 2 ? 0 : changed(ignoredAtAll(), side, thing);
            case 7: return ignoredThere(side, thing) ? 1 : 0;
            case 8: return ignoredAtAll().contains(thing) ? 1 : 0;
            default: return now.folders.get(thing) ? 1 : 0;
        }
    }

    int find(int side, int folder, int name) {
        return noTree(side) || (folder != -1 && noThing(folder)) ? -2 : lookFor(tree(side), folder, name);
    }

    int taken(int thing, int kind) {
        if (noThing(thing) || kind < 0 || kind > 2) {
            return -2;
        }
        boolean isFolder = now.folders.get(thing);
        boolean fits = kind == 0 ? !isFolder : kind == 1 ? isFolder : !inner(tree(0), thing).isEmpty();
        return fits ? thing : -13;
    }

    int latest(int what) {
        return what < 0 || what > 2 ? -2 : now.latest[what];
    }

    int feed(int n, int a, int b, int c, int d, int e) {
        int[] bytes = {a, b, c, d, e};
        if (n < 1 || n > 5) {
            return -2;
        }
        for (int v : bytes) {
            if (v < 0 || v > 255) {
                return -2;
            }
        }
        if (tape.length() + n > 40) {
            return -4;
        }
        for (int i = 0; i < n; i++) {
            tape += (char) bytes[i];
        }
        return tape.length();
    }

    int pattern() {
        if (now.rules.size() == 6) {
            return -4;
        }
        String text = tape;
        tape = "";
        StringBuilder expression = new StringBuilder();
        boolean isNot = false;
        int parts = 0;
        int at = 0;
        // 0: the beginning, 1: behind ! , 2: behind a PART, 3: behind /
        int where = 0;
        while (true) {
            while (at < text.length() && (text.charAt(at) == 32 || text.charAt(at) == 10)) {
                at++;
            }
            if (at == text.length()) {
                break;
            }
            String rest = text.substring(at);
            String token = rest.startsWith("**") ? "**" : rest.substring(0, 1);
            if (rest.matches("(?s)[0-9].*")) {
                token = rest.replaceAll("(?s)^([0-9]+).*$", "$1");
            }
            boolean isPart = token.matches("[0-9]{1,2}|\\*\\*?");
            if (isPart && where != 2) {
                parts++;
                expression.append(token.equals("**") ? "(/[0-9]+)*" : token.equals("*") ? "/[0-9]+"
                        : "/" + Integer.parseInt(token));
                where = 2;
            } else if (token.equals("!") && where == 0) {
                isNot = true;
                where = 1;
            } else if (token.equals("/") && where == 2 && parts < 8) {
                where = 3;
            } else {
                return -100 - at;
            }
            at += token.length();
        }
        if (where != 2) {
            return -100 - text.length();
        }
        now.rules.add(new Rule(expression.toString(), isNot));
        return now.rules.size() - 1;
    }

    int drop() {
        if (now.rules.isEmpty()) {
            return -3;
        }
        now.rules.remove(now.rules.size() - 1);
        return now.rules.size();
    }

    int matches(int pattern, int side, int thing) {
        if (pattern < 0 || pattern >= now.rules.size() || noTree(side) || noThing(thing)) {
            return -2;
        }
        if (!tree(side).containsKey(thing)) {
            return -3;
        }
        return path(tree(side), thing).matches(now.rules.get(pattern).expression) ? 1 : 0;
    }

    int prefer(int side) {
        if (noSide(side)) {
            return -2;
        }
        int before = now.prefer;
        now.prefer = side;
        return before;
    }

    Outcome outcome(int first) {
        Outcome o = new Outcome();
        Set<Integer> ignored = ignoredAtAll();
        int things = now.folders.size();
        o.total = things;
        Set<Integer> is = new TreeSet<>();
        for (int t = 0; t < things; t++) {
            if (!ignored.contains(t) && isThereThen(ignored, t, o)) {
                is.add(t);
            }
        }
        for (int t : is) {
            int as = whichSays(ignored, t, 4, first);
            Node n = tree(as).get(t);
            o.target.put(t, new Node(n.folder, n.name, -9));
            if ((changed(ignored, 0, t) & changed(ignored, 1, t) & 4) != 0) {
                Node a = tree(0).get(t);
                Node b = tree(1).get(t);
                if (a.folder != b.folder || a.name != b.name) {
                    o.clashes.add(new int[] {1, t});
                }
            }
        }
        for (int t : is) {
            Node n = o.target.get(t);
            o.target.put(t, new Node(n.folder, n.name, tree(whichSays(ignored, t, 8, first)).get(t).content));
            if ((changed(ignored, 0, t) & changed(ignored, 1, t) & 8) != 0
                    && tree(0).get(t).content != tree(1).get(t).content) {
                o.clashes.add(new int[] {2, t});
                if (o.total < 30) {
                    o.target.put(o.total++, new Node(n.folder, n.name, tree(1 - first).get(t).content));
                }
            }
        }
        mendRings(o);
        mendNames(ignored, o);
        return o;
    }

    private boolean isThereThen(Set<Integer> ignored, int t, Outcome o) {
        boolean here = tree(0).containsKey(t);
        boolean there = tree(1).containsKey(t);
        if (!tree(2).containsKey(t) || here == there) {
            return here || there;
        }
        int side = here ? 0 : 1;
        boolean stays = (changed(ignored, side, t) & 12) != 0;
        for (int in : inner(tree(side), t)) {
            stays |= ignored.contains(in) || changed(ignored, side, in) != 0;
        }
        if (stays) {
            o.clashes.add(new int[] {0, t});
        }
        return stays;
    }

    private int whichSays(Set<Integer> ignored, int t, int bit, int first) {
        int other = 1 - first;
        if (!tree(2).containsKey(t)) {
            return tree(first).containsKey(t) ? first : other;
        }
        if (!tree(0).containsKey(t)) {
            return 1;
        }
        if (!tree(1).containsKey(t)) {
            return 0;
        }
        if ((changed(ignored, first, t) & bit) != 0) {
            return first;
        }
        return (changed(ignored, other, t) & bit) != 0 ? other : 2;
    }

    private static boolean ring(TreeMap<Integer, Node> target, int t) {
        int at = target.get(t).folder;
        for (int i = 0; i < 40 && at != -1; i++) {
            if (at == t) {
                return true;
            }
            at = target.get(at).folder;
        }
        return false;
    }

    private static void mendRings(Outcome o) {
        while (true) {
            int greatest = -1;
            for (int t : o.target.keySet()) {
                if (ring(o.target, t)) {
                    greatest = t;
                }
            }
            if (greatest == -1) {
                return;
            }
            Node n = o.target.get(greatest);
            o.target.put(greatest, new Node(-1, n.name, n.content));
            o.clashes.add(new int[] {4, greatest});
        }
    }

    private void mendNames(Set<Integer> ignored, Outcome o) {
        for (int t : new ArrayList<>(o.target.keySet())) {
            Node n = o.target.get(t);
            Set<Integer> lesser = new HashSet<>();
            Set<Integer> all = new HashSet<>();
            for (var e : o.target.entrySet()) {
                if (e.getValue().folder == n.folder && e.getKey() != t) {
                    all.add(e.getValue().name);
                    if (e.getKey() < t) {
                        lesser.add(e.getValue().name);
                    }
                }
            }
            for (int side = 0; side < 3; side++) {
                for (var e : tree(side).entrySet()) {
                    if (ignored.contains(e.getKey()) && e.getValue().folder == n.folder) {
                        all.add(e.getValue().name);
                        lesser.add(e.getValue().name);
                    }
                }
            }
            if (lesser.contains(n.name)) {
                all.add(n.name);
                int name = 0;
                while (all.contains(name)) {
                    name++;
                }
                o.target.put(t, new Node(n.folder, name, n.content));
                o.clashes.add(new int[] {3, t});
            }
        }
    }

    /** STEPS {kind, thing, folder, name, content}. */
    List<int[]> plan(int side, Outcome o) {
        Set<Integer> ignored = ignoredAtAll();
        List<int[]> steps = new ArrayList<>();
        Set<Integer> aside = new TreeSet<>();
        for (var e : tree(side).entrySet()) {
            Node to = o.target.get(e.getKey());
            boolean stays = to != null && to.folder == e.getValue().folder && to.name == e.getValue().name;
            if (!ignored.contains(e.getKey()) && !stays) {
                aside.add(e.getKey());
                steps.add(new int[] {0, e.getKey(), -1, 100 + e.getKey(), -1});
            }
        }
        List<Integer> order = new ArrayList<>(o.target.keySet());
        order.sort((a, b) -> upFrom(o.target, a).size() - upFrom(o.target, b).size());
        for (int t : order) {
            Node n = o.target.get(t);
            if (!tree(side).containsKey(t)) {
                steps.add(new int[] {1, t, n.folder, n.name, n.content});
            } else if (aside.contains(t)) {
                steps.add(new int[] {2, t, n.folder, n.name, -1});
            }
        }
        for (int t : o.target.keySet()) {
            Node is = tree(side).get(t);
            if (is != null && is.content != o.target.get(t).content) {
                steps.add(new int[] {3, t, -1, -1, o.target.get(t).content});
            }
        }
        for (int t = 29; t >= 0; t--) {
            if (aside.contains(t) && !o.target.containsKey(t)) {
                steps.add(new int[] {4, t, -1, -1, -1});
            }
        }
        return steps;
    }

    /** Does the STEPS one by one; answers what can't be done, or nothing. */
    private String doSteps(int side, List<int[]> steps, int total) {
        TreeMap<Integer, Node> tree = tree(side);
        for (int[] s : steps) {
            Node is = tree.get(s[1]);
            boolean isLaid = s[0] <= 2;
            boolean hasFolder = s[2] == -1 || (tree.containsKey(s[2]) && s[2] < now.folders.size()
                    && now.folders.get(s[2]));
            boolean isFree = lookFor(tree, s[2], s[3]) == -1;
            boolean noRing = s[2] == -1 || !upFrom(tree, s[2]).contains(s[1]);
            boolean isThere = (is != null) == (s[0] != 1);
            boolean isEmpty = s[0] != 4 || inner(tree, s[1]).isEmpty();
            if (!isThere || !isEmpty || (isLaid && !(hasFolder && isFree && noRing)) || s[1] >= total) {
                return "kind " + s[0] + " thing " + s[1];
            }
            if (s[0] == 4) {
                tree.remove(s[1]);
            } else if (s[0] == 3) {
                tree.put(s[1], new Node(is.folder, is.name, s[4]));
            } else {
                tree.put(s[1], new Node(s[2], s[3], s[0] == 1 ? s[4] : is.content));
            }
        }
        return "";
    }

    int sync() {
        Outcome o = outcome(now.prefer);
        Set<Integer> ignored = ignoredAtAll();
        List<int[]> a = plan(0, o);
        List<int[]> b = plan(1, o);
        while (now.folders.size() < o.total) {
            now.folders.add(false);
        }
        String faults = doSteps(0, a, o.total) + doSteps(1, b, o.total);
        Check.holds("a step can't be done: " + faults, faults.isEmpty());
        TreeMap<Integer, Node> last = tree(2);
        last.keySet().retainAll(ignored);
        last.putAll(o.target);
        while (last.values().removeIf(n -> n.folder != -1 && !last.containsKey(n.folder))) {
            // whoever stood in one that is out now goes out next
        }
        return a.size() + b.size();
    }

    int target(int thing, int what) {
        if (thing < 0 || thing > 29 || what < 0 || what > 3) {
            return -2;
        }
        Outcome o = outcome(now.prefer);
        Node n = o.target.get(thing);
        if (n == null) {
            return -1;
        }
        return what == 0 ? n.folder : what == 1 ? n.name : what == 2 ? n.content : upFrom(o.target, thing).size() - 1;
    }

    int clash(int i, int what) {
        if (what < 0 || what > 1) {
            return -2;
        }
        List<int[]> clashes = outcome(now.prefer).clashes;
        return i < 0 || i >= clashes.size() ? -12 : clashes.get(i)[what];
    }

    int step(int side, int i, int what) {
        if (noSide(side) || what < 0 || what > 4) {
            return -2;
        }
        List<int[]> steps = plan(side, outcome(now.prefer));
        return i < 0 || i >= steps.size() ? -12 : steps.get(i)[what];
    }

    int would(int what) {
        switch (what) {
            case 0: return outcome(now.prefer).clashes.size();
            case 1:
            case 2: return plan(what - 1, outcome(now.prefer)).size();
            case 3:
                TreeMap<Integer, Node> a = new TreeMap<>(tree(0));
                TreeMap<Integer, Node> b = new TreeMap<>(tree(1));
                a.keySet().removeAll(ignoredAtAll());
                b.keySet().removeAll(ignoredAtAll());
                return a.equals(b) ? 1 : 0;
            default: return -2;
        }
    }

    int spared(int side, int thing) {
        if (noSide(side) || noThing(thing)) {
            return -2;
        }
        if ((changed(ignoredAtAll(), side, thing) & 8) == 0) {
            return -3;
        }
        int before = would(0);
        Kept truly = now;
        now = now.twin();
        Node n = tree(side).get(thing);
        tree(side).put(thing, new Node(n.folder, n.name, tree(2).get(thing).content));
        int after = would(0);
        now = truly;
        return before - after;
    }

    private int z;

    private int draw(int of) {
        z = z * 1103515245 + 12345;
        return (z >>> 9) % of;
    }

    int drawn(int seed, int n) {
        if (n < 0 || n > 20) {
            return -2;
        }
        Kept truly = now;
        now = now.twin();
        z = seed;
        int things = Math.max(1, now.folders.size());
        for (int i = 0; i < n; i++) {
            int side = draw(2);
            int thing = draw(things);
            int what = draw(3);
            int x = draw(50);
            switch (what) {
                case 0 -> write(side, thing, x);
                case 1 -> move(side, thing, -1, x);
                default -> remove(side, thing);
            }
        }
        int clashes = would(0);
        now = truly;
        return clashes;
    }

    int chance(int seed, int m, int part) {
        if (m < 1 || m > 10 || part < 0 || part > 1) {
            return -2;
        }
        int above = 0;
        for (int i = 0; i < m; i++) {
            above += drawn(seed + i, 8) > 0 ? 1 : 0;
        }
        int divisor = BigInteger.valueOf(above).gcd(BigInteger.valueOf(m)).intValue();
        return part == 0 ? above / divisor : m / divisor;
    }

    // SHEETS: null is missing; short[] or int[]
    private final Object[] sheets = new Object[4];

    private int[] numbers(Object sheet) {
        if (sheet instanceof int[] ints) {
            return ints;
        }
        short[] shorts = (short[]) sheet;
        int[] all = new int[shorts.length];
        for (int i = 0; i < all.length; i++) {
            all[i] = shorts[i];
        }
        return all;
    }

    private static int firstUnlike(int[] row, TreeMap<Integer, Node> tree) {
        for (int i = 0; i < row.length; i++) {
            if (row[i] != (tree.containsKey(i) ? tree.get(i).content : -1)) {
                return i;
            }
        }
        return -1;
    }

    int tells(int sheet, int side, int what) {
        if (sheet < 0 || sheet > 3 || noTree(side) || what < 0 || what > 1) {
            return -2;
        }
        if (sheets[sheet] == null) {
            return -11;
        }
        int[] row = numbers(sheets[sheet]);
        if (row.length > 30) {
            return -2;
        }
        if (what == 0) {
            return firstUnlike(row, tree(side));
        }
        int bits = 0;
        for (int i = 0; i < 5; i++) {
            bits += firstUnlike(row, i < 3 ? tree(i) : outcome(i - 3).target) == -1 ? 1 << i : 0;
        }
        return bits;
    }

    int film(int sheet, int side, int n) {
        if (sheet < 0 || sheet > 3 || noTree(side) || n < 0 || n > 30) {
            return -2;
        }
        int[] row = new int[n];
        for (int i = 0; i < n; i++) {
            row[i] = tree(side).containsKey(i) ? tree(side).get(i).content : -1;
        }
        sheets[sheet] = row;
        return n;
    }

    int image() {
        image = now.twin();
        return now.folders.size();
    }

    int back() {
        if (image == null) {
            return -3;
        }
        now = image.twin();
        return now.folders.size();
    }

    int count(int what) {
        switch (what) {
            case 0:
            case 1:
            case 2: return tree(what).size();
            case 3: return now.folders.size();
            case 4: return now.rules.size();
            case 5: return tape.length();
            case 6: return now.prefer;
            default: return -2;
        }
    }

    int sheet(int sheet, int sort, int n) {
        if (sheet < 0 || sheet > 3 || sort < -1 || sort > 1 || (sort != -1 && n > 40)) {
            return -2;
        }
        if (sort != -1 && n < 0) {
            return -14;
        }
        sheets[sheet] = sort == -1 ? null : sort == 0 ? new short[n] : new int[n];
        return 1;
    }

    private static int size(Object sheet) {
        return Array.getLength(sheet);
    }

    int cell(int sheet, int i, int v) {
        if (sheet < 0 || sheet > 3) {
            return -2;
        }
        if (sheets[sheet] == null) {
            return -11;
        }
        if (i < 0 || i >= size(sheets[sheet])) {
            return -12;
        }
        if (sheets[sheet] instanceof short[] shorts) {
            shorts[i] = (short) v;
        } else {
            ((int[]) sheets[sheet])[i] = v;
        }
        return 1;
    }

    int copy(int sheet, int i, int other, int j, int n) {
        if (sheet < 0 || sheet > 3 || other < 0 || other > 3) {
            return -2;
        }
        if (sheets[sheet] == null || sheets[other] == null) {
            return -11;
        }
        if (sheets[sheet].getClass() != sheets[other].getClass()) {
            return -13;
        }
        long most = Math.min(size(sheets[sheet]) - (long) i, size(sheets[other]) - (long) j);
        if (i < 0 || j < 0 || n < 0 || n > most) {
            return -12;
        }
        System.arraycopy(sheets[sheet], i, sheets[other], j, n);
        return n;
    }
}
