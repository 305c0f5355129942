/** Two trees of files that are made alike again; ../shared/DOC.md says what each call answers. */
public final class TwoTreesAlike {
    public static final int NONE = -1, BAD = -2, STATE = -3, FULL = -4, TAKEN = -6, RING = -7;

    private static final int MISSING = -11, OUTSIDE = -12, OTHER_KIND = -13, BELOW = -14;

    private static final int SIDES = 2, LAST = 2, TREES = 3;
    private static final int MOST_THINGS = 30, NAMES = 50, CONTENTS = 1000;
    private static final int MOST_PATTERNS = 6, MOST_PARTS = 8, MOST_BYTES = 40;
    private static final int SHEETS = 4, MOST_ITEMS = 40, SHORTS = 0, INTS = 1;
    private static final int MOST_CLASHES = 5 * MOST_THINGS, MOST_STEPS = 4 * MOST_THINGS;
    private static final int MOST_DRAWN = 20, MOST_SEEDS = 10, DRAWN_IN_A_CHANCE = 8;

    private static final int COME = 1, GONE = 2, MOVED = 4, WRITTEN = 8;
    private static final int CLASH_KEPT = 0, CLASH_PLACE = 1, CLASH_CONTENT = 2, CLASH_NAME = 3, CLASH_RING = 4;
    private static final int ASIDE = 0, MAKE = 1, PLACE = 2, WRITE = 3, REMOVE = 4;
    private static final int NAME_ASIDE = 100, FAULT = -100;

    // PARTS that are no NAME
    private static final int ANY_ONE = -1, ANY_MANY = -2;

    // TOKENS
    private static final int END = 0, WRONG = 1, NUMBER = 2, NOT = 3, SLASH = 4, STAR = 5, STARS = 6;

    private final World now = new World();
    private final World kept = new World();
    private final World thought = new World();
    private boolean isKept = false;
    private final Tape tape = new Tape();
    private final Merge merge = new Merge(now);
    private final Plan plan = new Plan();
    private final Sheet[] sheets = new Sheet[SHEETS];

    public TwoTreesAlike() {
        for (int i = 0; i < SHEETS; i++) {
            sheets[i] = new Sheet();
        }
    }

    // ---- changes on a side

    public int make(int side, int folder, int name, int content) {
        return now.create(side, folder, name, content);
    }

    public int write(int side, int thing, int v) {
        return now.rewrite(side, thing, v);
    }

    public int move(int side, int thing, int folder, int name) {
        return now.carry(side, thing, folder, name);
    }

    public int remove(int side, int thing) {
        return now.erase(side, thing);
    }

    public int told(int side, int thing, int what) {
        if (!isTree(side) || !now.isThing(thing) || what < 0 || what > 9) {
            return BAD;
        }
        Tree tree = now.trees[side];
        switch (what) {
            case 0: return bit(tree.has(thing));
            case 1: return tree.folder[thing];
            case 2: return tree.name[thing];
            case 3: return tree.content[thing];
            case 4: return tree.innerOnes(thing);
            case 5: return tree.depth(thing);
            case 7: return bit(now.isIgnoredThere(side, thing));
            case 9: return bit(now.isFolder[thing]);
            default: break;
        }
        merge.compare(now);
        if (what == 8) {
            return bit(merge.ignored[thing]);
        }
        return side == LAST ? 0 : merge.changed[side][thing];
    }

    public int find(int side, int folder, int name) {
        if (!isTree(side) || !now.isPlace(folder)) {
            return BAD;
        }
        return now.trees[side].standing(folder, name);
    }

    public int taken(int thing, int kind) {
        if (!now.isThing(thing) || kind < 0 || kind > 2) {
            return BAD;
        }
        boolean isSo = now.isFolder[thing];
        if (kind == 0) {
            isSo = !isSo;
        } else if (kind == 2) {
            isSo = now.trees[0].innerOnes(thing) > 0;
        }
        return isSo ? thing : OTHER_KIND;
    }

    public int latest(int what) {
        switch (what) {
            case 0: return now.refusal;
            case 1: return now.refusedBy;
            case 2: return now.ringSteps;
            default: return BAD;
        }
    }

    // ---- patterns

    public int feed(int n, int a, int b, int c, int d, int e) {
        if (n < 1 || n > 5 || !isByte(a) || !isByte(b) || !isByte(c) || !isByte(d) || !isByte(e)) {
            return BAD;
        }
        if (tape.size + n > MOST_BYTES) {
            return FULL;
        }
        tape.append(a);
        if (n > 1) {
            tape.append(b);
        }
        if (n > 2) {
            tape.append(c);
        }
        if (n > 3) {
            tape.append(d);
        }
        if (n > 4) {
            tape.append(e);
        }
        return tape.size;
    }

    public int pattern() {
        if (now.patternCount >= MOST_PATTERNS) {
            return FULL;
        }
        int fault = tape.read(now.patterns[now.patternCount]);
        tape.size = 0;
        if (fault != NONE) {
            return FAULT - fault;
        }
        now.patternCount++;
        return now.patternCount - 1;
    }

    public int drop() {
        if (now.patternCount == 0) {
            return STATE;
        }
        now.patternCount--;
        return now.patternCount;
    }

    public int matches(int pattern, int side, int thing) {
        if (pattern < 0 || pattern >= now.patternCount || !isTree(side) || !now.isThing(thing)) {
            return BAD;
        }
        if (!now.trees[side].has(thing)) {
            return STATE;
        }
        int length = now.trees[side].pathOf(thing, now.path);
        return bit(now.patterns[pattern].longestFit(now.path, length) == length);
    }

    // ---- made alike

    public int prefer(int side) {
        if (!isSide(side)) {
            return BAD;
        }
        int before = now.preferred;
        now.preferred = side;
        return before;
    }

    public int sync() {
        merge.settle(now, now.preferred);
        int steps = stepsOf(0) + stepsOf(1);
        merge.carryOut();
        return steps;
    }

    public int target(int thing, int what) {
        if (thing < 0 || thing >= MOST_THINGS || what < 0 || what > 3) {
            return BAD;
        }
        merge.settle(now, now.preferred);
        switch (what) {
            case 0: return merge.goal.folder[thing];
            case 1: return merge.goal.name[thing];
            case 2: return merge.goal.content[thing];
            default: return merge.goal.depth(thing);
        }
    }

    public int clash(int i, int what) {
        if (what < 0 || what > 1) {
            return BAD;
        }
        merge.settle(now, now.preferred);
        if (i < 0 || i >= merge.clashes) {
            return OUTSIDE;
        }
        return what == 0 ? merge.clashKind[i] : merge.clashThing[i];
    }

    public int step(int side, int i, int what) {
        if (!isSide(side) || what < 0 || what > 4) {
            return BAD;
        }
        merge.settle(now, now.preferred);
        if (i < 0 || i >= stepsOf(side)) {
            return OUTSIDE;
        }
        return plan.tell(merge.goal, i, what);
    }

    public int would(int what) {
        if (what < 0 || what > 3) {
            return BAD;
        }
        merge.settle(now, now.preferred);
        switch (what) {
            case 0: return merge.clashes;
            case 1: return stepsOf(0);
            case 2: return stepsOf(1);
            default: return bit(merge.areAlike());
        }
    }

    // ---- in thought

    public int spared(int side, int thing) {
        if (!isSide(side) || !now.isThing(thing)) {
            return BAD;
        }
        merge.settle(now, now.preferred);
        if ((merge.changed[side][thing] & WRITTEN) == 0) {
            return STATE;
        }
        int clashes = merge.clashes;
        thought.become(now);
        thought.trees[side].content[thing] = now.trees[LAST].content[thing];
        merge.settle(thought, thought.preferred);
        return clashes - merge.clashes;
    }

    public int drawn(int seed, int n) {
        if (n < 0 || n > MOST_DRAWN) {
            return BAD;
        }
        return clashesDrawn(seed, n);
    }

    public int chance(int seed, int m, int part) {
        if (m < 1 || m > MOST_SEEDS || part < 0 || part > 1) {
            return BAD;
        }
        int above = 0;
        for (int i = 0; i < m; i++) {
            if (clashesDrawn(seed + i, DRAWN_IN_A_CHANCE) > 0) {
                above++;
            }
        }
        int divisor = greatestDivisor(above, m);
        return (part == 0 ? above : m) / divisor;
    }

    // ---- what was told

    public int tells(int sheet, int side, int what) {
        if (!isSheet(sheet) || !isTree(side) || what < 0 || what > 1) {
            return BAD;
        }
        Sheet row = sheets[sheet];
        if (row.isMissing()) {
            return MISSING;
        }
        if (row.size > MOST_THINGS) {
            return BAD;
        }
        return what == 0 ? row.firstUnlike(now.trees[side]) : whereJustSo(row);
    }

    public int film(int sheet, int side, int n) {
        if (!isSheet(sheet) || !isTree(side) || n < 0 || n > MOST_THINGS) {
            return BAD;
        }
        Sheet row = sheets[sheet];
        row.renew(INTS, n);
        for (int i = 0; i < n; i++) {
            row.put(i, now.trees[side].content[i]);
        }
        return n;
    }

    public int image() {
        kept.become(now);
        isKept = true;
        return now.total;
    }

    public int back() {
        if (!isKept) {
            return STATE;
        }
        now.become(kept);
        return now.total;
    }

    public int count(int what) {
        switch (what) {
            case 0:
            case 1:
            case LAST: return now.trees[what].size();
            case 3: return now.total;
            case 4: return now.patternCount;
            case 5: return tape.size;
            case 6: return now.preferred;
            default: return BAD;
        }
    }

    // ---- the host

    public int sheet(int sheet, int sort, int n) {
        if (!isSheet(sheet) || sort < NONE || sort > INTS) {
            return BAD;
        }
        if (sort == NONE) {
            sheets[sheet].renew(NONE, 0);
            return 1;
        }
        if (n > MOST_ITEMS) {
            return BAD;
        }
        if (n < 0) {
            return BELOW;
        }
        sheets[sheet].renew(sort, n);
        return 1;
    }

    public int cell(int sheet, int i, int v) {
        if (!isSheet(sheet)) {
            return BAD;
        }
        Sheet row = sheets[sheet];
        if (row.isMissing()) {
            return MISSING;
        }
        if (!row.spans(i, 1)) {
            return OUTSIDE;
        }
        row.put(i, v);
        return 1;
    }

    public int copy(int sheet, int i, int other, int j, int n) {
        if (!isSheet(sheet) || !isSheet(other)) {
            return BAD;
        }
        Sheet from = sheets[sheet];
        Sheet to = sheets[other];
        if (from.isMissing() || to.isMissing()) {
            return MISSING;
        }
        if (from.sort != to.sort) {
            return OTHER_KIND;
        }
        if (!from.spans(i, n) || !to.spans(j, n)) {
            return OUTSIDE;
        }
        System.arraycopy(from.items, i, to.items, j, n);
        return n;
    }

    // ---- shared by the calls

    private static boolean isSide(int side) {
        return side >= 0 && side < SIDES;
    }

    private static boolean isTree(int side) {
        return side >= 0 && side < TREES;
    }

    private static boolean isName(int name) {
        return name >= 0 && name < NAMES;
    }

    private static boolean isByte(int v) {
        return v >= 0 && v <= 255;
    }

    private static boolean isSheet(int sheet) {
        return sheet >= 0 && sheet < SHEETS;
    }

    private static int bit(boolean b) {
        return b ? 1 : 0;
    }

    private static int greatestDivisor(int a, int b) {
        for (int d = b; d > 1; d--) {
            if (a % d == 0 && b % d == 0) {
                return d;
            }
        }
        return 1;
    }

    /** How many STEPS a SIDE has; the merge must be settled, and the plan then is that SIDE's. */
    private int stepsOf(int side) {
        plan.lay(merge, side);
        return plan.size;
    }

    private int clashesDrawn(int seed, int n) {
        thought.become(now);
        int things = Math.max(thought.total, 1);
        int z = seed;
        for (int i = 0; i < n; i++) {
            z = nextSeed(z);
            int side = (z >>> 9) % SIDES;
            z = nextSeed(z);
            int thing = (z >>> 9) % things;
            z = nextSeed(z);
            int what = (z >>> 9) % 3;
            z = nextSeed(z);
            int x = (z >>> 9) % NAMES;
            if (what == 0) {
                thought.rewrite(side, thing, x);
            } else if (what == 1) {
                thought.carry(side, thing, NONE, x);
            } else {
                thought.erase(side, thing);
            }
        }
        merge.settle(thought, thought.preferred);
        return merge.clashes;
    }

    private static int nextSeed(int z) {
        return z * 1103515245 + 12345;
    }

    private int whereJustSo(Sheet row) {
        int bits = 0;
        for (int i = 0; i < TREES; i++) {
            if (row.firstUnlike(now.trees[i]) == NONE) {
                bits |= 1 << i;
            }
        }
        for (int first = 0; first < SIDES; first++) {
            merge.settle(now, first);
            if (row.firstUnlike(merge.goal) == NONE) {
                bits |= 1 << (TREES + first);
            }
        }
        return bits;
    }

    /** Which THINGS are there, in which FOLDER, under which NAME, with which CONTENT (all NONE of one that isn't). */
    private static final class Tree {
        final boolean[] there = new boolean[MOST_THINGS];
        final int[] folder = new int[MOST_THINGS];
        final int[] name = new int[MOST_THINGS];
        final int[] content = new int[MOST_THINGS];

        Tree() {
            clear();
        }

        void clear() {
            for (int i = 0; i < MOST_THINGS; i++) {
                takeOut(i);
            }
        }

        void become(Tree other) {
            for (int i = 0; i < MOST_THINGS; i++) {
                putAsIn(other, i);
            }
        }

        void putAsIn(Tree other, int thing) {
            there[thing] = other.there[thing];
            folder[thing] = other.folder[thing];
            name[thing] = other.name[thing];
            content[thing] = other.content[thing];
        }

        void put(int thing, int inFolder, int underName, int withContent) {
            there[thing] = true;
            folder[thing] = inFolder;
            name[thing] = underName;
            content[thing] = withContent;
        }

        void takeOut(int thing) {
            there[thing] = false;
            folder[thing] = NONE;
            name[thing] = NONE;
            content[thing] = NONE;
        }

        boolean has(int thing) {
            return thing >= 0 && thing < MOST_THINGS && there[thing];
        }

        int size() {
            int n = 0;
            for (int i = 0; i < MOST_THINGS; i++) {
                if (there[i]) {
                    n++;
                }
            }
            return n;
        }

        boolean isAt(int thing, int inFolder, int underName) {
            return there[thing] && folder[thing] == inFolder && name[thing] == underName;
        }

        /** Who stands in a FOLDER under a NAME; of several the one of the least number. */
        int standing(int inFolder, int underName) {
            for (int i = 0; i < MOST_THINGS; i++) {
                if (isAt(i, inFolder, underName)) {
                    return i;
                }
            }
            return NONE;
        }

        /** How many FOLDERS up from a thing another one is; 0 is itself, NONE is nowhere above. */
        int stepsUp(int from, int to) {
            int at = from;
            // a bound, for a TARGET may have rings for a while
            for (int steps = 0; steps <= MOST_THINGS; steps++) {
                if (at < 0 || at >= MOST_THINGS || !there[at]) {
                    return NONE;
                }
                if (at == to) {
                    return steps;
                }
                at = folder[at];
            }
            return NONE;
        }

        boolean isInner(int thing, int of) {
            return has(thing) && stepsUp(folder[thing], of) != NONE;
        }

        int innerOnes(int of) {
            int n = 0;
            for (int i = 0; i < MOST_THINGS; i++) {
                if (isInner(i, of)) {
                    n++;
                }
            }
            return n;
        }

        /** How many FOLDERS are above a thing; NONE of one that isn't there. */
        int depth(int thing) {
            int above = 0;
            int at = thing;
            while (above < MOST_THINGS && at >= 0 && at < MOST_THINGS && there[at]) {
                above++;
                at = folder[at];
            }
            return above - 1;
        }

        /** Lays the NAMES from THE ROOT to a thing into a row; answers how many they are. */
        int pathOf(int thing, int[] row) {
            int length = depth(thing) + 1;
            int at = thing;
            for (int i = length - 1; i >= 0 && i < row.length && has(at); i--) {
                row[i] = name[at];
                at = folder[at];
            }
            return length;
        }

        boolean placesAsIn(Tree other, int thing) {
            return folder[thing] == other.folder[thing] && name[thing] == other.name[thing];
        }

        boolean holdsAsIn(Tree other, int thing) {
            return content[thing] == other.content[thing];
        }
    }

    private static final class Pattern {
        final int[] parts = new int[MOST_PARTS];
        int size;
        boolean isNot;

        /** How many NAMES the longest beginning of a PATH has that it MATCHES; 0: it MATCHES none. */
        int longestFit(int[] path, int length) {
            // bit p: the NAMES so far can be stood for by the PARTS ahead of part p
            int states = passMany(1);
            int longest = 0;
            for (int i = 0; i < length && i < path.length; i++) {
                states = passMany(afterName(states, path[i]));
                if ((states & (1 << size)) != 0) {
                    longest = i + 1;
                }
            }
            return longest;
        }

        private int afterName(int states, int name) {
            int after = 0;
            for (int p = 0; p < size; p++) {
                if ((states & (1 << p)) == 0) {
                    continue;
                }
                if (parts[p] == ANY_MANY) {
                    after |= 1 << p;
                } else if (parts[p] == ANY_ONE || parts[p] == name) {
                    after |= 1 << (p + 1);
                }
            }
            return after;
        }

        /** A part ** may stand for no NAME, so it can be passed at once. */
        private int passMany(int states) {
            int all = states;
            for (int p = 0; p < size; p++) {
                if ((all & (1 << p)) != 0 && parts[p] == ANY_MANY) {
                    all |= 1 << (p + 1);
                }
            }
            return all;
        }

        void become(Pattern other) {
            System.arraycopy(other.parts, 0, parts, 0, MOST_PARTS);
            size = other.size;
            isNot = other.isNot;
        }
    }

    /** THE TAPE, and the reading of a PATTERN from it. */
    private static final class Tape {
        final int[] bytes = new int[MOST_BYTES];
        int size = 0;
        private int at;
        private int token;
        private int tokenAt;
        private int part;

        void append(int v) {
            if (size < MOST_BYTES) {
                bytes[size] = v;
                size++;
            }
        }

        /** Reads a PATTERN; answers the place of its FAULT, or NONE. */
        int read(Pattern into) {
            at = 0;
            into.size = 0;
            next();
            into.isNot = token == NOT;
            if (into.isNot) {
                next();
            }
            for (int i = 0; i < MOST_PARTS; i++) {
                if (token != NUMBER && token != STAR && token != STARS) {
                    return tokenAt;
                }
                into.parts[i] = part;
                into.size = i + 1;
                next();
                if (token == END) {
                    return NONE;
                }
                if (token != SLASH || into.size == MOST_PARTS) {
                    return tokenAt;
                }
                next();
            }
            return tokenAt;
        }

        private void next() {
            while (at < size && (bytes[at] == ' ' || bytes[at] == '\n')) {
                at++;
            }
            tokenAt = at;
            if (at >= size) {
                token = END;
            } else if (isDigit(at)) {
                readNumber();
            } else {
                readSign();
            }
        }

        private boolean isDigit(int place) {
            return place < size && bytes[place] >= '0' && bytes[place] <= '9';
        }

        private void readNumber() {
            part = 0;
            while (at < size && isDigit(at)) {
                // a third digit makes it WRONG, so what it is no longer matters
                if (at - tokenAt < 2) {
                    part = part * 10 + bytes[at] - '0';
                }
                at++;
            }
            token = at - tokenAt > 2 ? WRONG : NUMBER;
        }

        private void readSign() {
            int sign = bytes[at];
            at++;
            if (sign == '!') {
                token = NOT;
            } else if (sign == '/') {
                token = SLASH;
            } else if (sign != '*') {
                token = WRONG;
            } else if (at < size && bytes[at] == '*') {
                at++;
                token = STARS;
                part = ANY_MANY;
            } else {
                token = STAR;
                part = ANY_ONE;
            }
        }
    }

    /** All that AN IMAGE keeps, and the changes on a SIDE. */
    private static final class World {
        int total = 0;
        final boolean[] isFolder = new boolean[MOST_THINGS];
        final Tree[] trees = new Tree[TREES];
        final Pattern[] patterns = new Pattern[MOST_PATTERNS];
        int patternCount = 0;
        int preferred = 0;
        int refusal = 0;
        int refusedBy = NONE;
        int ringSteps = 0;
        // rows that are used anew each time
        final int[] path = new int[MOST_THINGS];
        private final boolean[] isGoing = new boolean[MOST_THINGS];

        World() {
            for (int i = 0; i < TREES; i++) {
                trees[i] = new Tree();
            }
            for (int i = 0; i < MOST_PATTERNS; i++) {
                patterns[i] = new Pattern();
            }
        }

        void become(World other) {
            total = other.total;
            for (int i = 0; i < MOST_THINGS; i++) {
                isFolder[i] = other.isFolder[i];
            }
            for (int i = 0; i < TREES; i++) {
                trees[i].become(other.trees[i]);
            }
            for (int i = 0; i < MOST_PATTERNS; i++) {
                patterns[i].become(other.patterns[i]);
            }
            patternCount = other.patternCount;
            preferred = other.preferred;
            refusal = other.refusal;
            refusedBy = other.refusedBy;
            ringSteps = other.ringSteps;
        }

        boolean isThing(int thing) {
            return thing >= 0 && thing < total;
        }

        boolean isPlace(int folder) {
            return folder == NONE || isThing(folder);
        }

        private boolean canHold(Tree tree, int folder) {
            return folder == NONE || (tree.has(folder) && isFolder[folder]);
        }

        int create(int side, int folder, int name, int content) {
            if (!isSide(side) || !isPlace(folder) || !isName(name) || content < NONE || content >= CONTENTS) {
                return refuse(BAD, NONE);
            }
            Tree tree = trees[side];
            if (!canHold(tree, folder)) {
                return refuse(STATE, folder);
            }
            if (total >= MOST_THINGS) {
                return refuse(FULL, NONE);
            }
            int other = tree.standing(folder, name);
            if (other != NONE) {
                return refuse(TAKEN, other);
            }
            int thing = total;
            total++;
            isFolder[thing] = content == NONE;
            tree.put(thing, folder, name, Math.max(content, 0));
            return allow(thing);
        }

        int rewrite(int side, int thing, int v) {
            if (!isSide(side) || !isThing(thing) || v < 0 || v >= CONTENTS) {
                return refuse(BAD, NONE);
            }
            Tree tree = trees[side];
            if (!tree.has(thing)) {
                return refuse(STATE, thing);
            }
            if (isFolder[thing]) {
                return refuse(OTHER_KIND, NONE);
            }
            int before = tree.content[thing];
            tree.content[thing] = v;
            return allow(before);
        }

        int carry(int side, int thing, int folder, int name) {
            if (!isSide(side) || !isThing(thing) || !isPlace(folder) || !isName(name)) {
                return refuse(BAD, NONE);
            }
            Tree tree = trees[side];
            if (!tree.has(thing)) {
                return refuse(STATE, thing);
            }
            if (!canHold(tree, folder)) {
                return refuse(STATE, folder);
            }
            int steps = tree.stepsUp(folder, thing);
            if (steps != NONE) {
                refuse(RING, folder);
                ringSteps = steps;
                return RING;
            }
            int other = tree.standing(folder, name);
            if (other != NONE && other != thing) {
                return refuse(TAKEN, other);
            }
            tree.folder[thing] = folder;
            tree.name[thing] = name;
            return allow(1);
        }

        int erase(int side, int thing) {
            if (!isSide(side) || !isThing(thing)) {
                return refuse(BAD, NONE);
            }
            Tree tree = trees[side];
            if (!tree.has(thing)) {
                return refuse(STATE, thing);
            }
            // all are found first, for the ways up are whole only as long as none is taken out
            for (int i = 0; i < MOST_THINGS; i++) {
                isGoing[i] = i == thing || tree.isInner(i, thing);
            }
            int removed = 0;
            for (int i = 0; i < MOST_THINGS; i++) {
                if (isGoing[i]) {
                    tree.takeOut(i);
                    removed++;
                }
            }
            return allow(removed);
        }

        private int refuse(int refused, int by) {
            refusal = refused;
            refusedBy = by;
            ringSteps = 0;
            return refused;
        }

        private int allow(int answer) {
            refusal = 0;
            refusedBy = NONE;
            ringSteps = 0;
            return answer;
        }

        /** Whether PATTERNS say so of a thing in one of the trees. */
        boolean isIgnoredThere(int side, int thing) {
            Tree tree = trees[side];
            if (patternCount == 0 || !tree.has(thing)) {
                return false;
            }
            int length = tree.pathOf(thing, path);
            int innermost = 0;
            boolean isSo = false;
            for (int i = 0; i < patternCount && i < MOST_PATTERNS; i++) {
                int fit = patterns[i].longestFit(path, length);
                if (fit > 0 && fit >= innermost) {
                    innermost = fit;
                    isSo = !patterns[i].isNot;
                }
            }
            return isSo;
        }
    }

    /** What one world's SIDES CHANGED, the TARGET of that, and the CLASHES on the way to it. */
    private static final class Merge {
        private World world;
        final boolean[] ignored = new boolean[MOST_THINGS];
        final int[][] changed = new int[SIDES][MOST_THINGS];
        final Tree goal = new Tree();
        private int total = 0;
        private int first = 0;
        final int[] clashKind = new int[MOST_CLASHES];
        final int[] clashThing = new int[MOST_CLASHES];
        int clashes = 0;

        Merge(World of) {
            world = of;
        }

        /** Who is IGNORED at all, and what CHANGED. */
        void compare(World of) {
            world = of;
            for (int i = 0; i < MOST_THINGS; i++) {
                ignored[i] = world.isIgnoredThere(0, i) || world.isIgnoredThere(1, i) || world.isIgnoredThere(LAST, i);
            }
            ignoreWithin();
            for (int i = 0; i < MOST_THINGS; i++) {
                changed[0][i] = ignored[i] ? 0 : changeOf(world.trees[0], i);
                changed[1][i] = ignored[i] ? 0 : changeOf(world.trees[1], i);
            }
        }

        private void ignoreWithin() {
            boolean more = true;
            for (int round = 0; round < MOST_THINGS && more; round++) {
                more = false;
                for (int i = 0; i < MOST_THINGS; i++) {
                    if (!ignored[i] && standsInIgnored(i)) {
                        ignored[i] = true;
                        more = true;
                    }
                }
            }
        }

        private boolean standsInIgnored(int thing) {
            for (int i = 0; i < TREES; i++) {
                int folder = world.trees[i].folder[thing];
                if (folder >= 0 && folder < MOST_THINGS && ignored[folder]) {
                    return true;
                }
            }
            return false;
        }

        private int changeOf(Tree tree, int thing) {
            Tree last = world.trees[LAST];
            if (!last.has(thing)) {
                return tree.has(thing) ? COME : 0;
            }
            if (!tree.has(thing)) {
                return GONE;
            }
            int bits = tree.placesAsIn(last, thing) ? 0 : MOVED;
            return tree.holdsAsIn(last, thing) ? bits : bits | WRITTEN;
        }

        /** TARGET and CLASHES of a world, THE FIRST being a SIDE; the parts are the document's (1) to (5). */
        void settle(World of, int preferred) {
            compare(of);
            first = preferred;
            total = world.total;
            clashes = 0;
            goal.clear();
            decideWho();
            decidePlaces();
            decideContents();
            mendRings();
            mendNames();
        }

        private void addClash(int kind, int thing) {
            if (clashes < MOST_CLASHES) {
                clashKind[clashes] = kind;
                clashThing[clashes] = thing;
                clashes++;
            }
        }

        private void decideWho() {
            for (int i = 0; i < world.total; i++) {
                if (ignored[i] || (!world.trees[0].has(i) && !world.trees[1].has(i))) {
                    continue;
                }
                boolean isIn = true;
                if (changed[0][i] == GONE || changed[1][i] == GONE) {
                    isIn = isKeptOn(changed[0][i] == GONE ? 1 : 0, i);
                    if (isIn) {
                        addClash(CLASH_KEPT, i);
                    }
                }
                if (isIn) {
                    goal.put(i, NONE, NONE, 0);
                }
            }
        }

        /** Whether one that is GONE on the other SIDE alone stays for what CHANGED here, in it or of it. */
        private boolean isKeptOn(int side, int thing) {
            if ((changed[side][thing] & (MOVED | WRITTEN)) != 0) {
                return true;
            }
            Tree tree = world.trees[side];
            for (int i = 0; i < world.total; i++) {
                boolean counts = ignored[i] || (changed[side][i] & (COME | MOVED | WRITTEN)) != 0;
                if (counts && tree.isInner(i, thing)) {
                    return true;
                }
            }
            return false;
        }

        /** The tree that decides of a thing of TARGET, where it stands (MOVED) or what it holds (WRITTEN). */
        private Tree decider(int thing, int change) {
            Tree here = world.trees[first];
            Tree there = world.trees[1 - first];
            if (!here.has(thing)) {
                return there;
            }
            boolean isOther = (changed[1 - first][thing] & change) != 0;
            boolean isHere = (changed[first][thing] & change) != 0;
            return isOther && !isHere ? there : here;
        }

        private boolean bothDid(int thing, int change) {
            return (changed[0][thing] & changed[1][thing] & change) != 0;
        }

        private void decidePlaces() {
            for (int i = 0; i < world.total; i++) {
                if (!goal.has(i)) {
                    continue;
                }
                Tree as = decider(i, MOVED);
                goal.folder[i] = as.folder[i];
                goal.name[i] = as.name[i];
                if (bothDid(i, MOVED) && !world.trees[0].placesAsIn(world.trees[1], i)) {
                    addClash(CLASH_PLACE, i);
                }
            }
        }

        private void decideContents() {
            for (int i = 0; i < world.total; i++) {
                if (!goal.has(i)) {
                    continue;
                }
                goal.content[i] = decider(i, WRITTEN).content[i];
                if (bothDid(i, WRITTEN) && !world.trees[0].holdsAsIn(world.trees[1], i)) {
                    addClash(CLASH_CONTENT, i);
                    addOther(i);
                }
            }
        }

        /** A new FILE beside one that both SIDES wrote, with what THE OTHER has. */
        private void addOther(int thing) {
            if (total < MOST_THINGS) {
                goal.put(total, goal.folder[thing], goal.name[thing], world.trees[1 - first].content[thing]);
                total++;
            }
        }

        private void mendRings() {
            for (int round = 0; round < MOST_THINGS; round++) {
                int thing = greatestInRing();
                if (thing == NONE) {
                    return;
                }
                goal.folder[thing] = NONE;
                addClash(CLASH_RING, thing);
            }
        }

        private int greatestInRing() {
            for (int i = MOST_THINGS - 1; i >= 0; i--) {
                if (goal.isInner(i, i)) {
                    return i;
                }
            }
            return NONE;
        }

        private void mendNames() {
            for (int i = 0; i < total; i++) {
                if (!goal.has(i)) {
                    continue;
                }
                int folder = goal.folder[i];
                int name = goal.name[i];
                if (goal.standing(folder, name) < i || ignoredHas(folder, name)) {
                    goal.name[i] = leastFreeName(folder);
                    addClash(CLASH_NAME, i);
                }
            }
        }

        private boolean ignoredHas(int folder, int name) {
            for (int side = 0; side < TREES; side++) {
                Tree tree = world.trees[side];
                for (int i = 0; i < world.total; i++) {
                    if (ignored[i] && tree.isAt(i, folder, name)) {
                        return true;
                    }
                }
            }
            return false;
        }

        private int leastFreeName(int folder) {
            int name = 0;
            // no more NAMES than that can be had in one FOLDER, by all trees together
            while (name < (TREES + 1) * MOST_THINGS
                    && (goal.standing(folder, name) != NONE || ignoredHas(folder, name))) {
                name++;
            }
            return name;
        }

        boolean areAlike() {
            Tree a = world.trees[0];
            Tree b = world.trees[1];
            for (int i = 0; i < world.total; i++) {
                boolean isSame = a.has(i) == b.has(i) && a.placesAsIn(b, i) && a.holdsAsIn(b, i);
                if (!ignored[i] && !isSame) {
                    return false;
                }
            }
            return true;
        }

        /** SYNCED: the settled world becomes as its TARGET is. */
        void carryOut() {
            for (int i = world.total; i < total; i++) {
                world.isFolder[i] = false;
            }
            for (int side = 0; side < TREES; side++) {
                for (int i = 0; i < total; i++) {
                    if (!ignored[i]) {
                        world.trees[side].putAsIn(goal, i);
                    }
                }
            }
            world.total = total;
            forgetHomeless();
        }

        /** Who is IGNORED stays in LAST only as long as its FOLDER does. */
        private void forgetHomeless() {
            Tree last = world.trees[LAST];
            boolean more = true;
            for (int round = 0; round < MOST_THINGS && more; round++) {
                more = false;
                for (int i = 0; i < total; i++) {
                    if (last.has(i) && last.folder[i] != NONE && !last.has(last.folder[i])) {
                        last.takeOut(i);
                        more = true;
                    }
                }
            }
        }
    }

    /** The STEPS by which one SIDE comes to be as TARGET is. */
    private static final class Plan {
        private final int[] kind = new int[MOST_STEPS];
        private final int[] thing = new int[MOST_STEPS];
        private final boolean[] isAside = new boolean[MOST_THINGS];
        private final int[] deep = new int[MOST_THINGS];
        int size = 0;

        void lay(Merge merge, int side) {
            Tree tree = merge.world.trees[side];
            Tree goal = merge.goal;
            size = 0;
            for (int i = 0; i < MOST_THINGS; i++) {
                deep[i] = goal.depth(i);
                isAside[i] = tree.has(i) && !merge.ignored[i] && !(goal.has(i) && tree.placesAsIn(goal, i));
                if (isAside[i]) {
                    add(ASIDE, i);
                }
            }
            for (int depth = 0; depth < MOST_THINGS; depth++) {
                addAtDepth(tree, depth);
            }
            for (int i = 0; i < MOST_THINGS; i++) {
                if (goal.has(i) && tree.has(i) && !tree.holdsAsIn(goal, i)) {
                    add(WRITE, i);
                }
            }
            for (int i = MOST_THINGS - 1; i >= 0; i--) {
                if (isAside[i] && !goal.has(i)) {
                    add(REMOVE, i);
                }
            }
        }

        private void addAtDepth(Tree tree, int depth) {
            for (int i = 0; i < MOST_THINGS; i++) {
                if (deep[i] != depth) {
                    continue;
                }
                if (!tree.has(i)) {
                    add(MAKE, i);
                } else if (isAside[i]) {
                    add(PLACE, i);
                }
            }
        }

        private void add(int stepKind, int stepThing) {
            if (size < MOST_STEPS) {
                kind[size] = stepKind;
                thing[size] = stepThing;
                size++;
            }
        }

        int tell(Tree goal, int i, int what) {
            if (i < 0 || i >= size) {
                return OUTSIDE;
            }
            int of = thing[i];
            boolean isLaid = kind[i] == MAKE || kind[i] == PLACE;
            switch (what) {
                case 0: return kind[i];
                case 1: return of;
                case 2: return isLaid ? goal.folder[of] : NONE;
                case 3:
                    if (kind[i] == ASIDE) {
                        return NAME_ASIDE + of;
                    }
                    return isLaid ? goal.name[of] : NONE;
                default: return kind[i] == MAKE || kind[i] == WRITE ? goal.content[of] : NONE;
            }
        }
    }

    /** A row of numbers of a sort; of sort NONE it is missing. */
    private static final class Sheet {
        int sort = NONE;
        int size = 0;
        final int[] items = new int[MOST_ITEMS];

        boolean isMissing() {
            return sort == NONE;
        }

        void renew(int newSort, int newSize) {
            sort = newSort;
            size = newSize;
            for (int i = 0; i < MOST_ITEMS; i++) {
                items[i] = 0;
            }
        }

        boolean spans(int from, int n) {
            return from >= 0 && n >= 0 && n <= size && from <= size - n;
        }

        void put(int i, int v) {
            if (spans(i, 1)) {
                items[i] = sort == SHORTS ? (short) v : v;
            }
        }

        /** The first THING whose CONTENT in a tree is otherwise than told here; NONE. */
        int firstUnlike(Tree tree) {
            for (int i = 0; i < size && i < MOST_THINGS; i++) {
                if (items[i] != tree.content[i]) {
                    return i;
                }
            }
            return NONE;
        }
    }
}
