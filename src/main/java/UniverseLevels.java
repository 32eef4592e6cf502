import java.util.Arrays;

/**
 * The levels of universes, the bounds asked between them, and what follows from these.
 * The words in capitals are those of the document.
 */
public final class UniverseLevels {
    public static final int BAD = -1, NO = -2, FULL = -3, NONE = -4;

    private static final int MOST_LETTERS = 200;
    private static final int MOST_LEVELS = 10;
    private static final int MOST_BOUNDS = 16;
    private static final int MOST_TERMS = 6;
    private static final int MOST_UNDONE = 8;
    private static final int MOST_KEPT = 2;
    private static final int MOST_AGAINST = 3;
    /** Three of sixteen BOUNDS. */
    private static final int MOST_CHOICES = 560;
    private static final int MOST_K = 9;
    private static final int MOST_X = 99;
    private static final int ABOVE = 10;

    private static final int FIXED = 0, FLOATING = 1, STRICT = 2, LAX = 3;

    /** Stands for the LENGTH of a WAY that there isn't: far below every real one, even with some added. */
    private static final int NO_WAY = -1000000;

    private static final String FIRST_TEXT =
            "v0;v1;v0;v3;v2;v1;v0;c0,1,1;c1,0,3;d3,2,2;c2,1,4;c4,2,5;c0,3,5;d5,6,1;c6,0,0;";

    private final Text text;
    private final State now;
    private final State[] earlier;
    private int undoable;
    private final State[] kept;
    private int keptOnes;
    private final Lengths lengths;
    private final int[] trial;
    private final Against against;
    private final Rows max;
    private final Rows rootRows;
    private final Round shown;
    private int refused;

    public UniverseLevels() {
        text = new Text();
        now = new State();
        earlier = new State[MOST_UNDONE];
        for (int i = 0; i < MOST_UNDONE; i++) {
            earlier[i] = new State();
        }
        kept = new State[MOST_KEPT];
        for (int i = 0; i < MOST_KEPT; i++) {
            kept[i] = new State();
        }
        lengths = new Lengths();
        trial = new int[MOST_LEVELS];
        against = new Against();
        max = new Rows();
        rootRows = new Rows();
        shown = new Round();
        for (int i = 0; i < FIRST_TEXT.length(); i++) {
            text.append(FIRST_TEXT.charAt(i));
        }
        layText();
        text.length = 0;
    }

    // ---- levels

    public int write(int letter) {
        if (letter < 32 || letter > 126) {
            return BAD;
        }
        return text.append(letter) ? text.length : FULL;
    }

    public int wipe() {
        int was = text.length;
        text.length = 0;
        return was;
    }

    public int fault() {
        return text.firstFault();
    }

    public int lay() {
        // A TEXT without FAULT that isn't empty begins with a LEVEL, as no BOUND can come ahead of its LEVELS.
        if (text.length == 0 || text.firstFault() != NONE) {
            return NO;
        }
        layText();
        return now.bounds;
    }

    public int level(int u, int what) {
        if (!isLevel(u)) {
            return BAD;
        }
        switch (what) {
            case 0:
                return now.kinds[u];
            case 1:
                return lengths.valueOf(u);
            case 2:
                return placeOf(u);
            case 3:
                return sameAs(u);
            case 4:
                return now.isFloating(u) ? 1 : 0;
            default:
                return BAD;
        }
    }

    public int bound(int b, int what) {
        if (!isBound(b)) {
            return BAD;
        }
        switch (what) {
            case 0:
                return now.from[b];
            case 1:
                return now.to[b];
            case 2:
                return now.weight[b] + 100;
            case 3:
                return isNeedless(b) ? 1 : 0;
            case 4:
                return slackOf(b);
            default:
                return BAD;
        }
    }

    public int reach(int u, int v) {
        if (!isLevel(u) || !isLevel(v)) {
            return BAD;
        }
        return lengths.leads(u, v) ? lengths.greatest[u][v] + 1000 : NONE;
    }

    // ---- acts

    public int ask(int u, int k, int v) {
        if (!areUnlike(u, v) || !isK(k)) {
            return BAD;
        }
        return pose(u, k, v);
    }

    public int retract(int b) {
        if (!isBound(b)) {
            return BAD;
        }
        remember();
        now.takeBack(b);
        lengths.measure(now);
        return now.bounds;
    }

    public int rename(int u, int kind) {
        if (!isLevel(u) || kind < FIXED || kind > LAX) {
            return BAD;
        }
        int was = now.kinds[u];
        if (was == kind) {
            return NO;
        }
        remember();
        now.kinds[u] = kind;
        return was;
    }

    public int undo() {
        if (undoable <= 0) {
            return NO;
        }
        undoable--;
        resume(earlier[undoable]);
        return undoable;
    }

    public int round(int i) {
        if (i < -1 || i > ABOVE) {
            return BAD;
        }
        if (shown.size == 0) {
            return NONE;
        }
        if (i == -1) {
            return shown.size;
        }
        if (i == ABOVE) {
            return shown.above;
        }
        return i < shown.size ? shown.levels[i] : NONE;
    }

    // ---- what follows

    public int follows(int u, int k, int v) {
        if (!isLevel(u) || !isK(k) || !isLevel(v)) {
            return BAD;
        }
        return lengths.implies(u, k, v) ? 1 : 0;
    }

    public int raised(int u, int x, int v) {
        if (!isLevel(u) || !isX(x) || !isLevel(v)) {
            return BAD;
        }
        int value = lengths.valueOf(v);
        return lengths.leads(u, v) ? Math.max(value, x + lengths.greatest[u][v]) : value;
    }

    public int top(int u, int x, int v) {
        if (!isLevel(u) || !isX(x) || !isLevel(v)) {
            return BAD;
        }
        if (!lengths.leads(v, u) || lengths.valueOf(u) > x) {
            return NONE;
        }
        return x - lengths.greatest[v][u] + 1000;
    }

    public int stands(int u, int k, int v, int i) {
        if (!areUnlike(u, v) || !isK(k) || i < -1 || i >= MOST_AGAINST) {
            return BAD;
        }
        int many = against.choose(now, lengths, u, now.weightTowards(v, k), v);
        if (i == -1 || many == NONE) {
            return many;
        }
        return i < many ? against.numberOf(i) : NONE;
    }

    // ---- the greatest of rows

    public int term(int u, int k) {
        if (!isLevel(u) || !isK(k)) {
            return BAD;
        }
        if (max.size >= MOST_TERMS) {
            return FULL;
        }
        max.add(u, k);
        return max.size;
    }

    public int empty() {
        int had = max.size;
        max.size = 0;
        return had;
    }

    public int brief() {
        int bits = 0;
        for (int i = 0; i < max.size; i++) {
            if (max.isShort(i, lengths)) {
                bits |= 1 << i;
            }
        }
        return bits;
    }

    public int below(int v, int k) {
        if (!isLevel(v) || !isK(k)) {
            return BAD;
        }
        for (int i = 0; i < max.size; i++) {
            if (!lengths.implies(max.levels[i], max.more[i] - k, v)) {
                return 0;
            }
        }
        return 1;
    }

    public int worth() {
        int greatest = 0;
        for (int i = 0; i < max.size; i++) {
            greatest = Math.max(greatest, lengths.valueOf(max.levels[i]) + max.more[i]);
        }
        return greatest;
    }

    // ---- floating levels

    public int roots(int u) {
        if (!isLevel(u)) {
            return BAD;
        }
        if (!now.isFloating(u)) {
            return NO;
        }
        gatherRoots(u);
        int bits = 0;
        for (int i = 0; i < rootRows.size; i++) {
            if (rootRows.isShort(i, lengths)) {
                bits |= 1 << rootRows.levels[i];
            }
        }
        return bits;
    }

    public int loose(int u, int what) {
        if (!isLevel(u) || what < 0 || what > 1) {
            return BAD;
        }
        if (!now.isFloating(u)) {
            return NO;
        }
        boolean holds = what == 0 ? isLoose(u) : isPinned(u);
        return holds ? 1 : 0;
    }

    // ---- kept

    public int keep() {
        if (keptOnes >= MOST_KEPT) {
            return FULL;
        }
        kept[keptOnes].copy(now);
        keptOnes++;
        return keptOnes;
    }

    public int back() {
        if (keptOnes <= 0) {
            return NO;
        }
        keptOnes--;
        resume(kept[keptOnes]);
        undoable = 0;
        return keptOnes;
    }

    public int count(int what) {
        switch (what) {
            case 0:
                return now.levels;
            case 1:
                return now.bounds;
            case 2:
                return refused;
            case 3:
                return lengths.greatestValue();
            case 4:
                return floatingOnes();
            case 5:
                return max.size;
            case 6:
                return undoable;
            case 7:
                return keptOnes;
            case 8:
                return text.length;
            case 9:
                return lengths.pairs();
            default:
                return BAD;
        }
    }

    // ---- which numbers are told

    private boolean isLevel(int u) {
        return u >= 0 && u < now.levels;
    }

    private boolean areUnlike(int u, int v) {
        return isLevel(u) && isLevel(v) && u != v;
    }

    private boolean isBound(int b) {
        return b >= 0 && b < now.bounds;
    }

    private static boolean isK(int k) {
        return k >= -MOST_K && k <= MOST_K;
    }

    private static boolean isX(int x) {
        return x >= 0 && x <= MOST_X;
    }

    // ---- laying and asking

    /** Needs a TEXT without FAULT: its first ITEM is a LEVEL, so that lengths are measured anew ahead of any BOUND. */
    private void layText() {
        now.levels = 0;
        now.bounds = 0;
        keptOnes = 0;
        max.size = 0;
        shown.size = 0;
        refused = 0;
        int at = 0;
        for (int items = 0; items < MOST_LETTERS && at >= 0 && at < text.length; items++) {
            int letter = text.letterAt(at);
            at = text.readItem(at);
            layItem(letter, text.numbers);
        }
        // What the TEXT asked for went through the same acts, but can't be UNDONE.
        undoable = 0;
    }

    private void layItem(int letter, int[] numbers) {
        if (letter == 'v') {
            now.addLevel(numbers[0]);
            lengths.measure(now);
        } else if (letter == 'c') {
            pose(numbers[0], numbers[1], numbers[2]);
        } else if (letter == 'd') {
            pose(numbers[0], -numbers[2], numbers[1]);
        }
    }

    /** ASKED, of LEVELS that are unlike and there: the number of the BOUND, NO if it is REFUSED, or FULL. */
    private int pose(int u, int k, int v) {
        int weight = now.weightTowards(v, k);
        if (lengths.leads(v, u) && lengths.greatest[v][u] + weight > 0) {
            refused++;
            shown.trace(now, lengths, v, u);
            shown.above = lengths.greatest[v][u] + weight;
            return NO;
        }
        if (now.bounds >= MOST_BOUNDS) {
            return FULL;
        }
        remember();
        now.take(u, weight, v);
        lengths.measure(now);
        return now.bounds - 1;
    }

    /** Holds the state ahead of an act; the oldest one makes room, and its object is used again. */
    private void remember() {
        if (undoable >= MOST_UNDONE) {
            State oldest = earlier[0];
            for (int i = 1; i < MOST_UNDONE; i++) {
                earlier[i - 1] = earlier[i];
            }
            earlier[MOST_UNDONE - 1] = oldest;
            undoable = MOST_UNDONE - 1;
        }
        earlier[undoable].copy(now);
        undoable++;
    }

    private void resume(State state) {
        now.copy(state);
        lengths.measure(now);
    }

    // ---- of one level or bound

    private int placeOf(int u) {
        int value = lengths.valueOf(u);
        int place = 0;
        for (int other = 0; other < now.levels; other++) {
            int otherValue = lengths.valueOf(other);
            if (otherValue < value || otherValue == value && other < u) {
                place++;
            }
        }
        return place;
    }

    private int sameAs(int u) {
        int bits = 0;
        for (int other = 0; other < now.levels; other++) {
            if (lengths.greatest[u][other] == 0 && lengths.greatest[other][u] == 0) {
                bits |= 1 << other;
            }
        }
        return bits;
    }

    private boolean isNeedless(int b) {
        now.lengthsFrom(now.from[b], 1 << b, trial);
        return trial[now.to[b]] >= now.weight[b];
    }

    private int slackOf(int b) {
        int u = now.from[b];
        int v = now.to[b];
        // No WAY back gains by going over the BOUND itself, since no round is above 0: all BOUNDS may be left in.
        return lengths.leads(v, u) ? -(lengths.greatest[v][u] + now.weight[b]) : NONE;
    }

    private int floatingOnes() {
        int many = 0;
        for (int u = 0; u < now.levels; u++) {
            if (now.isFloating(u)) {
                many++;
            }
        }
        return many;
    }

    // ---- what floating levels stand for

    private boolean isRoot(int r, int u) {
        return r != u && !now.isFloating(r) && lengths.leads(r, u);
    }

    private void gatherRoots(int u) {
        rootRows.size = 0;
        for (int r = 0; r < now.levels; r++) {
            if (isRoot(r, u)) {
                rootRows.add(r, lengths.greatest[r][u]);
            }
        }
    }

    private boolean isLoose(int u) {
        for (int r = 0; r < now.levels; r++) {
            if (!now.isFloating(r) && (lengths.leads(r, u) || lengths.leads(u, r))) {
                return false;
            }
        }
        return true;
    }

    private boolean isPinned(int u) {
        for (int r = 0; r < now.levels; r++) {
            if (isRoot(r, u) && lengths.leads(u, r) && lengths.greatest[r][u] + lengths.greatest[u][r] == 0) {
                return true;
            }
        }
        return false;
    }

    /** THE TEXT, and the ITEM of it that was read last. */
    private static final class Text {
        private final int[] letters = new int[MOST_LETTERS];
        private final int[] numbers = new int[3];
        private int length;

        private boolean append(int letter) {
            if (length >= MOST_LETTERS) {
                return false;
            }
            letters[length] = letter;
            length++;
            return true;
        }

        /** 0 outside THE TEXT, which is no letter of any ITEM. */
        private int letterAt(int at) {
            return at >= 0 && at < length ? letters[at] : 0;
        }

        private int firstFault() {
            int levels = 0;
            int at = 0;
            for (int items = 0; items < MOST_LETTERS && at < length; items++) {
                int next = readItem(at);
                if (next < 0 || !isAllowed(letterAt(at), levels)) {
                    return at;
                }
                if (letterAt(at) == 'v') {
                    levels++;
                }
                at = next;
            }
            return NONE;
        }

        /** Whether the ITEM read last may stand behind so many LEVELS. */
        private boolean isAllowed(int letter, int levels) {
            if (letter == 'v') {
                return levels < MOST_LEVELS && numbers[0] <= LAX;
            }
            int v = letter == 'c' ? numbers[2] : numbers[1];
            int k = letter == 'c' ? numbers[1] : numbers[2];
            return numbers[0] < levels && v < levels && numbers[0] != v && k <= MOST_K;
        }

        /** Reads the ITEM at a place: the place behind it, or NONE if the letters aren't those of one. */
        private int readItem(int at) {
            int wanted = numbersBehind(letterAt(at));
            int next = at + 1;
            for (int i = 0; i < wanted; i++) {
                int figures = figuresAt(next);
                int end = i == wanted - 1 ? ';' : ',';
                if (figures == 0 || letterAt(next + figures) != end) {
                    return NONE;
                }
                numbers[i] = numberAt(next, figures);
                next += figures + 1;
            }
            return wanted == 0 ? NONE : next;
        }

        private static int numbersBehind(int letter) {
            switch (letter) {
                case 'v':
                    return 1;
                case 'c':
                case 'd':
                    return 3;
                default:
                    return 0;
            }
        }

        private int figuresAt(int at) {
            if (!isFigure(letterAt(at))) {
                return 0;
            }
            return isFigure(letterAt(at + 1)) ? 2 : 1;
        }

        private int numberAt(int at, int figures) {
            int first = letterAt(at) - '0';
            return figures == 1 ? first : first * 10 + letterAt(at + 1) - '0';
        }

        private static boolean isFigure(int letter) {
            return letter >= '0' && letter <= '9';
        }
    }

    /** KINDS and BOUNDS as they stand. */
    private static final class State {
        private final int[] kinds = new int[MOST_LEVELS];
        private final int[] from = new int[MOST_BOUNDS];
        private final int[] to = new int[MOST_BOUNDS];
        private final int[] weight = new int[MOST_BOUNDS];
        private int levels;
        private int bounds;

        private void copy(State other) {
            System.arraycopy(other.kinds, 0, kinds, 0, MOST_LEVELS);
            System.arraycopy(other.from, 0, from, 0, MOST_BOUNDS);
            System.arraycopy(other.to, 0, to, 0, MOST_BOUNDS);
            System.arraycopy(other.weight, 0, weight, 0, MOST_BOUNDS);
            levels = other.levels;
            bounds = other.bounds;
        }

        private void addLevel(int kind) {
            if (levels < MOST_LEVELS) {
                kinds[levels] = kind;
                levels++;
            }
        }

        private boolean isFloating(int u) {
            return kinds[u] == FLOATING || kinds[u] == LAX;
        }

        private int weightTowards(int v, int k) {
            switch (kinds[v]) {
                case STRICT:
                    return k + 1;
                case LAX:
                    return k - 1;
                default:
                    return k;
            }
        }

        private void take(int u, int w, int v) {
            if (bounds < MOST_BOUNDS) {
                from[bounds] = u;
                to[bounds] = v;
                weight[bounds] = w;
                bounds++;
            }
        }

        private void takeBack(int b) {
            for (int i = b + 1; i < bounds; i++) {
                from[i - 1] = from[i];
                to[i - 1] = to[i];
                weight[i - 1] = weight[i];
            }
            bounds--;
        }

        /** REACH from u to each LEVEL, into out, without the BOUNDS that are told as bits. */
        private void lengthsFrom(int u, int without, int[] out) {
            Arrays.fill(out, NO_WAY);
            out[u] = 0;
            boolean longer = true;
            // No round is above 0, so the longest WAYS go to each LEVEL once: as many turns as LEVELS are enough.
            for (int turn = 0; turn < levels && longer; turn++) {
                longer = false;
                for (int b = 0; b < bounds; b++) {
                    if ((without >> b & 1) == 0 && lengthen(b, out)) {
                        longer = true;
                    }
                }
            }
        }

        private boolean lengthen(int b, int[] out) {
            int start = out[from[b]];
            if (start == NO_WAY || start + weight[b] <= out[to[b]]) {
                return false;
            }
            out[to[b]] = start + weight[b];
            return true;
        }
    }

    /** REACH from each LEVEL to each, and what is read off it. */
    private static final class Lengths {
        private final int[][] greatest = new int[MOST_LEVELS][MOST_LEVELS];
        private int levels;

        private void measure(State state) {
            levels = state.levels;
            for (int u = 0; u < levels; u++) {
                state.lengthsFrom(u, 0, greatest[u]);
            }
        }

        private boolean leads(int u, int v) {
            return greatest[u][v] != NO_WAY;
        }

        /** Whether it FOLLOWS that u and k be no more than v. */
        private boolean implies(int u, int k, int v) {
            return leads(u, v) && greatest[u][v] >= k;
        }

        private int valueOf(int v) {
            int value = 0;
            for (int u = 0; u < levels; u++) {
                value = Math.max(value, greatest[u][v]);
            }
            return value;
        }

        private int greatestValue() {
            int value = 0;
            for (int v = 0; v < levels; v++) {
                value = Math.max(value, valueOf(v));
            }
            return value;
        }

        private int pairs() {
            int many = 0;
            for (int u = 0; u < levels; u++) {
                for (int v = 0; v < levels; v++) {
                    if (u != v && leads(u, v)) {
                        many++;
                    }
                }
            }
            return many;
        }
    }

    /** TERMS: LEVELS, each with so much more. */
    private static final class Rows {
        private final int[] levels = new int[MOST_LEVELS];
        private final int[] more = new int[MOST_LEVELS];
        private int size;

        private void add(int u, int k) {
            if (size < MOST_LEVELS) {
                levels[size] = u;
                more[size] = k;
                size++;
            }
        }

        private boolean isShort(int i, Lengths lengths) {
            for (int j = 0; j < size; j++) {
                if (j != i && isCovered(i, j, lengths)) {
                    return false;
                }
            }
            return true;
        }

        private boolean isCovered(int i, int by, Lengths lengths) {
            return isNoMore(i, by, lengths) && (by < i || !isNoMore(by, i, lengths));
        }

        private boolean isNoMore(int i, int j, Lengths lengths) {
            return lengths.implies(levels[i], more[i] - more[j], levels[j]);
        }
    }

    /** The ROUND of the BOUND REFUSED last; of no LEVEL, if none was. */
    private static final class Round {
        private final int[] levels = new int[MOST_LEVELS];
        private final int[] fewest = new int[MOST_LEVELS];
        private int size;
        private int above;

        /** The LEVELS of the WAY from start to end; there must be one. */
        private void trace(State state, Lengths lengths, int start, int end) {
            countFewest(state, lengths, end);
            size = 0;
            int at = start;
            for (int i = 0; i < MOST_LEVELS && at >= 0; i++) {
                levels[size] = at;
                size++;
                at = at == end ? NONE : nextLevel(state, lengths, at, end);
            }
        }

        /** How few BOUNDS lead from each LEVEL to end by the greatest LENGTH. */
        private void countFewest(State state, Lengths lengths, int end) {
            Arrays.fill(fewest, MOST_LEVELS);
            fewest[end] = 0;
            for (int turn = 0; turn < state.levels; turn++) {
                for (int b = 0; b < state.bounds; b++) {
                    if (isOnLongest(state, lengths, b, end)) {
                        int u = state.from[b];
                        fewest[u] = Math.min(fewest[u], fewest[state.to[b]] + 1);
                    }
                }
            }
        }

        private int nextLevel(State state, Lengths lengths, int at, int end) {
            int lowest = NONE;
            for (int b = 0; b < state.bounds; b++) {
                int v = state.to[b];
                if (state.from[b] == at && fewest[v] == fewest[at] - 1 && isOnLongest(state, lengths, b, end)
                        && (lowest == NONE || v < lowest)) {
                    lowest = v;
                }
            }
            return lowest;
        }

        private static boolean isOnLongest(State state, Lengths lengths, int b, int end) {
            int u = state.from[b];
            int v = state.to[b];
            int rest = lengths.greatest[v][end];
            return rest != NO_WAY && lengths.greatest[u][end] == state.weight[b] + rest;
        }
    }

    /** The fewest BOUNDS that stand against one that would be ASKED. */
    private static final class Against {
        private final int[] inTheWay = new int[MOST_BOUNDS];
        private final int[] picks = new int[MOST_AGAINST];
        private final int[] trial = new int[MOST_LEVELS];
        private int many;

        private int numberOf(int i) {
            return inTheWay[picks[i]];
        }

        /** How many, for one of so much WEIGHT from u to v; NONE. */
        private int choose(State state, Lengths lengths, int u, int weight, int v) {
            gather(state, lengths, u, weight, v);
            for (int size = 0; size <= MOST_AGAINST && size <= many; size++) {
                for (int i = 0; i < size; i++) {
                    picks[i] = i;
                }
                boolean more = true;
                for (int turn = 0; turn < MOST_CHOICES && more; turn++) {
                    state.lengthsFrom(v, pickedBits(size), trial);
                    if (trial[u] + weight <= 0) {
                        return size;
                    }
                    more = nextChoice(size);
                }
            }
            return NONE;
        }

        /** Only a BOUND on a WAY that is too long can be among the fewest: taking back another one changes nothing. */
        private void gather(State state, Lengths lengths, int u, int weight, int v) {
            many = 0;
            for (int b = 0; b < state.bounds; b++) {
                int before = lengths.greatest[v][state.from[b]];
                int behind = lengths.greatest[state.to[b]][u];
                if (before != NO_WAY && behind != NO_WAY && before + state.weight[b] + behind + weight > 0) {
                    inTheWay[many] = b;
                    many++;
                }
            }
        }

        private int pickedBits(int size) {
            int bits = 0;
            for (int i = 0; i < size; i++) {
                bits |= 1 << numberOf(i);
            }
            return bits;
        }

        /** Goes on to the next choice by the lowest number, then the second lowest, ..; false behind the last. */
        private boolean nextChoice(int size) {
            for (int i = size - 1; i >= 0; i--) {
                if (picks[i] < many - size + i) {
                    picks[i]++;
                    for (int j = i + 1; j < size; j++) {
                        picks[j] = picks[j - 1] + 1;
                    }
                    return true;
                }
            }
            return false;
        }
    }
}
