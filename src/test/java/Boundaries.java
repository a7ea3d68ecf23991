/** The edges that the tests of the boundaries share, and the check that a refused call changes nothing. */
final class Boundaries {
    static final int BAD_ARG = -1;
    static final int FULL = -2;
    static final int NONE = -4;

    static final String LONGEST = "0102103210";
    static final String FULL_WORD = "012301230123012301230123";
    static final String FULL_OF_PAIRS = "001122330011223300112233";
    static final String FULL_OF_ONE = "333333333333333333333333";

    /**
     * The neighbours of the range and of int's own ends; and numbers that would pass for a slot if
     * only their low bits were looked at, or if the product with 24 wrapped around to a slot's
     * start.
     */
    static final int[] NO_SLOTS = {-1, 3, -2, -3, 4, 5, 24, 256, 65536, 1 << 29, (1 << 29) + 1,
            (1 << 29) + 2, -(1 << 29), 1 << 30, Integer.MIN_VALUE, Integer.MIN_VALUE + 1,
            Integer.MAX_VALUE - 1, Integer.MAX_VALUE};

    static final int[] NO_LETTERS = {-1, 4, -4, 5, 7, 8, 32, 256, 65536, 1 << 30,
            Integer.MIN_VALUE, Integer.MIN_VALUE + 1, Integer.MAX_VALUE - 1, Integer.MAX_VALUE};

    /** For letter: negative ones reach into the slot before, those from 24 on into the one behind. */
    static final int[] NO_PLACES = {-1, -2, -24, -25, -48, 24, 25, 47, 48, 71, 72, 256, 1 << 30,
            Integer.MIN_VALUE, Integer.MIN_VALUE + 1, Integer.MAX_VALUE - 1, Integer.MAX_VALUE,
            Integer.MAX_VALUE - 23, Integer.MAX_VALUE - 47};

    /** Empty, full, one letter below full, and mixed words in the three slots. */
    static final String[][] STATES = {
            {"", "", ""},
            {FULL_WORD, FULL_OF_PAIRS, FULL_OF_ONE},
            {FULL_WORD.substring(1), "0", FULL_OF_ONE.substring(1)},
            {"0121", FULL_WORD, ""},
            {"", "3", LONGEST}};

    private Boundaries() {}

    interface Call {
        long on(CoxeterWords x);
    }

    /** The call is refused with the code in every one of the states, and changes nothing there. */
    static void refused(String name, long code, Call call) {
        for (String[] words : STATES) {
            refusedIn(words, name, code, call);
        }
    }

    static void refusedIn(String[] words, String name, long code, Call call) {
        String where = name + " on " + String.join("/", words);
        CoxeterWords x = Slots.of(words);
        Check.due(where, call.on(x), code);
        Check.due(where + " again", call.on(x), code);
        CoxeterWords untouched = Slots.of(words);
        Check.due("all that can be seen after " + where, everything(x), everything(untouched));
    }

    /** For the questions about one slot that are answered BAD_ARG if there is no such slot. */
    interface OneSlot {
        long ask(CoxeterWords x, int s);
    }

    static void refusesWrongSlots(String name, OneSlot call) {
        for (int s : NO_SLOTS) {
            refused(name + "(" + s + ")", BAD_ARG, x -> call.ask(x, s));
        }
    }

    /** For the questions about two slots. */
    interface TwoSlots {
        long ask(CoxeterWords x, int s, int r);
    }

    static void refusesWrongPairs(String name, long code, TwoSlots call) {
        for (int no : NO_SLOTS) {
            for (int s = 0; s < 3; s++) {
                int slot = s;
                refused(name + "(" + no + ", " + s + ")", code, x -> call.ask(x, no, slot));
                refused(name + "(" + s + ", " + no + ")", code, x -> call.ask(x, slot, no));
            }
            // Both wrong: the same number, and two different ones.
            refused(name + "(" + no + ", " + no + ")", code, x -> call.ask(x, no, no));
            refused(name + "(" + no + ", 3)", code, x -> call.ask(x, no, 3));
            refused(name + "(-1, " + no + ")", code, x -> call.ask(x, -1, no));
        }
    }

    /** Every answer that the object can give about its words; it is empty afterwards. */
    static String everything(CoxeterWords x) {
        StringBuilder seen = new StringBuilder();
        for (int s = 0; s < 3; s++) {
            seen.append("slot ").append(s).append(": ").append(x.size(s));
            seen.append(' ').append(x.length(s)).append(' ').append(x.endings(s));
            seen.append(' ').append(x.beginnings(s)).append(' ').append(x.letters(s));
            seen.append(' ').append(x.shortWords(s)).append(' ').append(x.order(s));
            for (int r = 0; r < 3; r++) {
                seen.append(' ').append(x.equal(s, r)).append(x.lies(s, r));
                seen.append(x.between(s, r)).append(x.alike(s, r));
            }
            for (int i = -1; i <= 24; i++) {
                seen.append(' ').append(x.letter(s, i));
            }
        }
        for (int s = 0; s < 3; s++) {
            seen.append("; popped ").append(popped(x, s));
        }
        return seen.toString();
    }

    private static String popped(CoxeterWords x, int s) {
        StringBuilder letters = new StringBuilder();
        for (int i = 0; i <= 24; i++) {
            letters.append(x.pop(s)).append(' ');
        }
        return letters.toString();
    }

    static long number(boolean answer) {
        return answer ? 1L : 0L;
    }
}
