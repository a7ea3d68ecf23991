/**
 * Words of four letters with rules of exchange: which are equal, how short they can be made, which
 * lie in which.
 *
 * <p>Letter a stands for swapping the places a and a + 1 of five things. The exchanges of the
 * document are exactly the relations between these swaps, so two words are equal if and only if
 * they arrange the five things alike. There are 120 arrangements; each has a number here, the VALUE
 * of all the words that lead to it, and all that is asked of a word but its letters is read from
 * tables over the values.
 */
public final class CoxeterWords {
    public static final int BAD_ARG = -1;
    public static final int FULL = -2;
    public static final int NONE = -4;

    private static final int SLOTS = 3;
    private static final int CAPACITY = 24;
    private static final int CELLS = 72;

    private static final int LETTERS = 4;
    private static final int VALUES = 120;
    private static final int STEPS = 480;
    private static final int PAIRS = 14400;

    /** The empty word is the first that is listed. */
    private static final int EMPTY = 0;

    /** An arrangement is one int, three bits for the thing at each place. */
    private static final int BITS = 3;
    private static final int THING = 7;
    private static final int UNMOVED = (1 << 3) | (2 << 6) | (3 << 9) | (4 << 12);

    /** Slot s has the cells from s * CAPACITY on. */
    private final int[] cells = new int[CELLS];
    private final int[] sizes = new int[SLOTS];

    /** Values are numbered by rising length, so that each stands behind all the shorter ones. */
    private final int[] arrangements = new int[VALUES];
    private final int[] lengths = new int[VALUES];
    private final int[] letterSets = new int[VALUES];
    private final int[] shortCounts = new int[VALUES];
    private int listed = 0;

    /** A short word of value v is one of value stems[v] with the letter lasts[v] appended. */
    private final int[] stems = new int[VALUES];
    private final int[] lasts = new int[VALUES];

    /** At v * LETTERS + a: the value of a word of value v with a appended. */
    private final int[] appended = new int[STEPS];

    /** At w * VALUES + u: whether a word of value u lies in one of value w. */
    private final boolean[] lying = new boolean[PAIRS];

    /** Scratch of alike: at v, the value of the word it was filled for, joined with one of value v. */
    private final int[] joined = new int[VALUES];

    public CoxeterWords() {
        listValues();
        countShortWords();
        findLying();
    }

    public int push(int s, int a) {
        if (!isSlot(s) || a < 0 || a >= LETTERS) {
            return BAD_ARG;
        }
        int size = sizes[s];
        if (size >= CAPACITY) {
            return FULL;
        }
        cells[s * CAPACITY + size] = a;
        sizes[s] = size + 1;
        return size + 1;
    }

    public int pop(int s) {
        if (!isSlot(s)) {
            return BAD_ARG;
        }
        int size = sizes[s];
        if (size <= 0) {
            return NONE;
        }
        sizes[s] = size - 1;
        return cells[s * CAPACITY + size - 1];
    }

    public int clear(int s) {
        if (!isSlot(s)) {
            return BAD_ARG;
        }
        int size = sizes[s];
        sizes[s] = 0;
        return size;
    }

    public int shorten(int s) {
        if (!isSlot(s)) {
            return BAD_ARG;
        }
        // The letters that can begin a short word are those that can end the turned one, so the
        // word is written from its front while the turned one is taken apart from its end.
        int rest = valueOfTurned(s);
        int size = lengths[rest];
        for (int i = 0; i < size; i++) {
            int a = firstEnding(rest);
            cells[s * CAPACITY + i] = a;
            rest = appended[rest * LETTERS + a];
        }
        sizes[s] = size;
        return size;
    }

    public int turn(int s) {
        if (!isSlot(s)) {
            return BAD_ARG;
        }
        int size = sizes[s];
        int start = s * CAPACITY;
        for (int i = 0; i < size / 2; i++) {
            int j = size - 1 - i;
            int a = cells[start + i];
            cells[start + i] = cells[start + j];
            cells[start + j] = a;
        }
        return size;
    }

    public int size(int s) {
        return isSlot(s) ? sizes[s] : BAD_ARG;
    }

    public int letter(int s, int i) {
        if (!isSlot(s)) {
            return BAD_ARG;
        }
        if (i < 0 || i >= sizes[s]) {
            return NONE;
        }
        return cells[s * CAPACITY + i];
    }

    public int length(int s) {
        if (!isSlot(s)) {
            return BAD_ARG;
        }
        return lengths[valueOf(s)];
    }

    public boolean equal(int s, int r) {
        if (!isSlot(s) || !isSlot(r)) {
            return false;
        }
        return valueOf(s) == valueOf(r);
    }

    public int endings(int s) {
        if (!isSlot(s)) {
            return BAD_ARG;
        }
        int value = valueOf(s);
        return endingSet(value);
    }

    public int beginnings(int s) {
        if (!isSlot(s)) {
            return BAD_ARG;
        }
        int value = valueOfTurned(s);
        return endingSet(value);
    }

    public int letters(int s) {
        if (!isSlot(s)) {
            return BAD_ARG;
        }
        return letterSets[valueOf(s)];
    }

    public int shortWords(int s) {
        if (!isSlot(s)) {
            return BAD_ARG;
        }
        return shortCounts[valueOf(s)];
    }

    public boolean lies(int s, int r) {
        if (!isSlot(s) || !isSlot(r)) {
            return false;
        }
        return lying[valueOf(r) * VALUES + valueOf(s)];
    }

    public int between(int s, int r) {
        if (!isSlot(s) || !isSlot(r)) {
            return BAD_ARG;
        }
        int low = valueOf(s);
        int high = valueOf(r);
        int count = 0;
        for (int v = 0; v < VALUES; v++) {
            if (lying[high * VALUES + v] && lying[v * VALUES + low]) {
                count++;
            }
        }
        return count;
    }

    public int order(int s) {
        if (!isSlot(s)) {
            return BAD_ARG;
        }
        int value = EMPTY;
        for (int k = 1; k <= VALUES; k++) {
            value = walk(value, s);
            if (value == EMPTY) {
                return k;
            }
        }
        // Not reached: the joined words have come back to the empty one before all values are used.
        return NONE;
    }

    public boolean alike(int s, int r) {
        if (!isSlot(s) || !isSlot(r)) {
            return false;
        }
        int front = valueOf(r);
        joinInFront(front);
        for (int v = 0; v < VALUES; v++) {
            if (walk(v, s) == joined[v]) {
                return true;
            }
        }
        return false;
    }

    private static boolean isSlot(int s) {
        return s >= 0 && s < SLOTS;
    }

    private int valueOf(int s) {
        return walk(EMPTY, s);
    }

    /** The value of a word of the given value joined with the word in slot s. */
    private int walk(int from, int s) {
        int value = from;
        for (int i = 0; i < sizes[s]; i++) {
            value = appended[value * LETTERS + cells[s * CAPACITY + i]];
        }
        return value;
    }

    private int valueOfTurned(int s) {
        int value = EMPTY;
        for (int i = sizes[s] - 1; i >= 0; i--) {
            value = appended[value * LETTERS + cells[s * CAPACITY + i]];
        }
        return value;
    }

    private boolean isEnding(int value, int a) {
        return lengths[appended[value * LETTERS + a]] < lengths[value];
    }

    private int endingSet(int value) {
        int set = 0;
        for (int a = 0; a < LETTERS; a++) {
            if (isEnding(value, a)) {
                set |= 1 << a;
            }
        }
        return set;
    }

    /** Asked only of words that are not empty: one of the letters is an ending of each. */
    private int firstEnding(int value) {
        for (int a = 0; a < LETTERS - 1; a++) {
            if (isEnding(value, a)) {
                return a;
            }
        }
        return LETTERS - 1;
    }

    private void joinInFront(int front) {
        joined[EMPTY] = front;
        for (int v = 1; v < VALUES; v++) {
            joined[v] = appended[joined[stems[v]] * LETTERS + lasts[v]];
        }
    }

    /** Goes from the empty word outward, so that a value is met first by one of its short words. */
    private void listValues() {
        arrangements[EMPTY] = UNMOVED;
        listed = 1;
        for (int v = 0; v < VALUES; v++) {
            for (int a = 0; a < LETTERS; a++) {
                int arrangement = swapPlaces(arrangements[v], a);
                int next = find(arrangement);
                if (next == listed && listed < VALUES) {
                    list(arrangement, v, a);
                }
                appended[v * LETTERS + a] = next;
            }
        }
    }

    private static int swapPlaces(int arrangement, int a) {
        int low = a * BITS;
        int high = low + BITS;
        int change = ((arrangement >> low) ^ (arrangement >> high)) & THING;
        return arrangement ^ (change << low) ^ (change << high);
    }

    /** The value of an arrangement, or the number it gets if it is not listed yet. */
    private int find(int arrangement) {
        for (int v = 0; v < listed; v++) {
            if (arrangements[v] == arrangement) {
                return v;
            }
        }
        return listed;
    }

    private void list(int arrangement, int stem, int a) {
        arrangements[listed] = arrangement;
        stems[listed] = stem;
        lasts[listed] = a;
        lengths[listed] = lengths[stem] + 1;
        // All short words of a value have the same letters, so those of one of them do.
        letterSets[listed] = letterSets[stem] | (1 << a);
        listed++;
    }

    private void countShortWords() {
        shortCounts[EMPTY] = 1;
        for (int v = 1; v < VALUES; v++) {
            for (int a = 0; a < LETTERS; a++) {
                if (isEnding(v, a)) {
                    shortCounts[v] += shortCounts[appended[v * LETTERS + a]];
                }
            }
        }
    }

    /**
     * Every short word of a value leaves the same values when letters are crossed out, so one of
     * them is enough: its last letter is crossed out or stays behind what is left of its stem.
     */
    private void findLying() {
        lying[EMPTY] = true;
        for (int w = 1; w < VALUES; w++) {
            for (int u = 0; u < VALUES; u++) {
                if (lying[stems[w] * VALUES + u]) {
                    lying[w * VALUES + u] = true;
                    lying[w * VALUES + appended[u * LETTERS + lasts[w]]] = true;
                }
            }
        }
    }
}
