/** Promises 7 to 19: one test for each sentence that names a boundary; the sentence stands above it. */
public final class QuestionsBoundariesTest {
    private static final int BAD_ARG = Boundaries.BAD_ARG;
    private static final int NONE = Boundaries.NONE;
    private static final String FULL_WORD = Boundaries.FULL_WORD;
    private static final String FULL_OF_ONE = Boundaries.FULL_OF_ONE;
    private static final String LONGEST = Boundaries.LONGEST;
    private static final String LONGEST_MADE_FULL = LONGEST + "00112233001122";

    public static void main(String[] args) {
        sizeFromEmptyToFull();
        Boundaries.refusesWrongSlots("size", CoxeterWords::size);
        letterFromFirstToLast();
        letterThereIsNone();
        letterOfAnotherSlotIsNone();
        letterRefusesWrongSlots();
        letterTestsTheSlotFirst();
        lengthOfTheEdges();
        Boundaries.refusesWrongSlots("length", CoxeterWords::length);
        equalOfTheEdges();
        equalIsFalseIfThereAreNoSuchSlots();
        endingsOfTheEdges();
        endingsOfAFullWord();
        Boundaries.refusesWrongSlots("endings", CoxeterWords::endings);
        beginningsOfTheEdges();
        beginningsOfAFullWord();
        Boundaries.refusesWrongSlots("beginnings", CoxeterWords::beginnings);
        lettersOfTheEdges();
        Boundaries.refusesWrongSlots("letters", CoxeterWords::letters);
        shortWordsOfTheEdges();
        Boundaries.refusesWrongSlots("shortWords", CoxeterWords::shortWords);
        liesOfTheEdges();
        liesIsFalseIfThereAreNoSuchSlots();
        betweenOfTheEdges();
        betweenRefusesWrongSlots();
        orderOfTheEdges();
        Boundaries.refusesWrongSlots("order", CoxeterWords::order);
        alikeOfTheEdges();
        alikeIsFalseIfThereAreNoSuchSlots();
        Check.end();
    }

    /** Promise 7: "The number of letters of the word in slot s": 0 to 24, not its length. */
    private static void sizeFromEmptyToFull() {
        for (int s = 0; s < 3; s++) {
            CoxeterWords x = new CoxeterWords();
            for (int n = 0; n < 24; n++) {
                Check.due("size", x.size(s), n);
                x.push(s, 3);
            }
            Check.due("size of full", x.size(s), 24);
            x.push(s, 3);
            Check.due("size after FULL", x.size(s), 24);
            Check.due("sizes of the others", x.size((s + 1) % 3) + x.size((s + 2) % 3), 0);
        }
    }

    /** Promise 8: "Letter i (0 is the first) of the word in slot s" */
    private static void letterFromFirstToLast() {
        for (int s = 0; s < 3; s++) {
            CoxeterWords x = Slots.of(FULL_OF_ONE, FULL_OF_ONE, FULL_OF_ONE);
            x.clear(s);
            Slots.push(x, s, FULL_WORD);
            for (int i = 0; i < 24; i++) {
                Check.due("letter " + i, x.letter(s, i), i % 4);
            }
        }
    }

    /** Promise 8: "NONE if there is none": just outside the word, at every size of it. */
    private static void letterThereIsNone() {
        for (int s = 0; s < 3; s++) {
            int slot = s;
            for (int n = 0; n <= 24; n++) {
                String[] words = {FULL_WORD, FULL_WORD, FULL_WORD};
                words[s] = FULL_WORD.substring(0, n);
                int end = n;
                Boundaries.refusedIn(words, "letter(" + s + ", " + n + ")", NONE,
                        x -> x.letter(slot, end));
                Boundaries.refusedIn(words, "letter(" + s + ", -1)", NONE,
                        x -> x.letter(slot, -1));
            }
        }
    }

    /** The same far outside, where the other slots or a wrap-around might be met. */
    private static void letterOfAnotherSlotIsNone() {
        for (int i : Boundaries.NO_PLACES) {
            for (int s = 0; s < 3; s++) {
                int slot = s;
                Boundaries.refused("letter(" + s + ", " + i + ")", NONE, x -> x.letter(slot, i));
            }
        }
    }

    /** Promise 8: "BAD_ARG if s is not 0 to 2." */
    private static void letterRefusesWrongSlots() {
        Boundaries.refusesWrongSlots("letter 0 of", (x, s) -> x.letter(s, 0));
        Boundaries.refusesWrongSlots("letter 23 of", (x, s) -> x.letter(s, 23));
    }

    /** Promise 19: "letter tests s first: BAD_ARG if it is not 0 to 2, whatever i is." */
    private static void letterTestsTheSlotFirst() {
        for (int s : Boundaries.NO_SLOTS) {
            for (int i : Boundaries.NO_PLACES) {
                Boundaries.refused("letter(" + s + ", " + i + ")", BAD_ARG, x -> x.letter(s, i));
            }
        }
    }

    /** Promise 9: "The length of the word in slot s" */
    private static void lengthOfTheEdges() {
        asked("length", CoxeterWords::length, "", 0);
        asked("length", CoxeterWords::length, "0", 1);
        asked("length", CoxeterWords::length, "00", 0);
        asked("length", CoxeterWords::length, LONGEST, 10);
        asked("length", CoxeterWords::length, FULL_OF_ONE, 0);
        asked("length", CoxeterWords::length, FULL_WORD, 4);
        asked("length", CoxeterWords::length, LONGEST_MADE_FULL, 10);
    }

    /** Promise 10: "Whether the words in the slots s and r are equal" */
    private static void equalOfTheEdges() {
        for (String[] words : Boundaries.STATES) {
            CoxeterWords x = Slots.of(words);
            for (int s = 0; s < 3; s++) {
                Check.due("equal to itself", x.equal(s, s), true);
            }
        }
        CoxeterWords x = Slots.of("", FULL_OF_ONE, Boundaries.FULL_OF_PAIRS);
        Check.due("empty and full", x.equal(0, 1), true);
        Check.due("full and full", x.equal(1, 2), true);
        Check.due("full and empty", x.equal(2, 0), true);
        Check.due("pop", x.pop(2), 3);
        Check.due("full and one below full", x.equal(1, 2), false);
        Check.due("empty and one below full", x.equal(0, 2), false);
    }

    /** Promise 10: "false if there are no such slots": either of them, or both. */
    private static void equalIsFalseIfThereAreNoSuchSlots() {
        Boundaries.refusesWrongPairs("equal", 0, (x, s, r) -> Boundaries.number(x.equal(s, r)));
    }

    /** Promise 11: "The set of the letters a, as the sum of 2 to the power a": none to all. */
    private static void endingsOfTheEdges() {
        asked("endings", CoxeterWords::endings, "", 0);
        asked("endings", CoxeterWords::endings, "0", 1);
        asked("endings", CoxeterWords::endings, "1", 2);
        asked("endings", CoxeterWords::endings, "2", 4);
        asked("endings", CoxeterWords::endings, "3", 8);
        asked("endings", CoxeterWords::endings, "33", 0);
        asked("endings", CoxeterWords::endings, LONGEST, 15);
    }

    /** Promise 11: "with a appended": asked of a full word too, where push is refused. */
    private static void endingsOfAFullWord() {
        asked("endings", CoxeterWords::endings, FULL_WORD, 8);
        asked("endings", CoxeterWords::endings, FULL_OF_ONE, 0);
        asked("endings", CoxeterWords::endings, LONGEST_MADE_FULL, 15);
    }

    /** Promise 12: "The same with a put in front of the word." */
    private static void beginningsOfTheEdges() {
        asked("beginnings", CoxeterWords::beginnings, "", 0);
        asked("beginnings", CoxeterWords::beginnings, "0", 1);
        asked("beginnings", CoxeterWords::beginnings, "3", 8);
        asked("beginnings", CoxeterWords::beginnings, "01", 1);
        asked("beginnings", CoxeterWords::beginnings, "33", 0);
        asked("beginnings", CoxeterWords::beginnings, LONGEST, 15);
    }

    /** The same of a full word, where there is no place in front. */
    private static void beginningsOfAFullWord() {
        asked("beginnings", CoxeterWords::beginnings, FULL_WORD, 1);
        asked("beginnings", CoxeterWords::beginnings, FULL_OF_ONE, 0);
        asked("beginnings", CoxeterWords::beginnings, LONGEST_MADE_FULL, 15);
    }

    /** Promise 13: "The set of the letters that the short words [...] have": none to all. */
    private static void lettersOfTheEdges() {
        asked("letters", CoxeterWords::letters, "", 0);
        asked("letters", CoxeterWords::letters, "0", 1);
        asked("letters", CoxeterWords::letters, "3", 8);
        asked("letters", CoxeterWords::letters, "0123", 15);
        // Letters of the word itself that its short words lack.
        asked("letters", CoxeterWords::letters, FULL_OF_ONE, 0);
        asked("letters", CoxeterWords::letters, Boundaries.FULL_OF_PAIRS, 0);
        asked("letters", CoxeterWords::letters, "30301", 2);
        asked("letters", CoxeterWords::letters, LONGEST_MADE_FULL, 15);
    }

    /** Promise 14: "How many short words are equal to the word in slot s": the empty one is one. */
    private static void shortWordsOfTheEdges() {
        asked("shortWords", CoxeterWords::shortWords, "", 1);
        asked("shortWords", CoxeterWords::shortWords, "3", 1);
        asked("shortWords", CoxeterWords::shortWords, FULL_OF_ONE, 1);
        asked("shortWords", CoxeterWords::shortWords, FULL_WORD, 1);
        asked("shortWords", CoxeterWords::shortWords, LONGEST, 768);
        asked("shortWords", CoxeterWords::shortWords, LONGEST_MADE_FULL, 768);
    }

    /** Promise 15: "Whether the word in slot s lies in that in slot r": the direction counts. */
    private static void liesOfTheEdges() {
        CoxeterWords x = Slots.of("", FULL_WORD, LONGEST_MADE_FULL);
        for (int s = 0; s < 3; s++) {
            for (int r = 0; r < 3; r++) {
                Check.due("lies(" + s + ", " + r + ")", x.lies(s, r), s <= r);
            }
        }
        Check.due("other slots first", Slots.of(LONGEST, "3").lies(1, 0), true);
        Check.due("other slots first", Slots.of(LONGEST, "3").lies(0, 1), false);
    }

    /** Promise 15: "false if there are no such slots": even where the empty word lies in all. */
    private static void liesIsFalseIfThereAreNoSuchSlots() {
        Boundaries.refusesWrongPairs("lies", 0, (x, s, r) -> Boundaries.number(x.lies(s, r)));
    }

    /** Promise 16: "equal ones counted as one": 0, 1, and all there are. */
    private static void betweenOfTheEdges() {
        for (String[] words : Boundaries.STATES) {
            CoxeterWords x = Slots.of(words);
            for (int s = 0; s < 3; s++) {
                Check.due("between itself and itself", x.between(s, s), 1);
            }
        }
        CoxeterWords x = Slots.of("", FULL_WORD, LONGEST_MADE_FULL);
        Check.due("all", x.between(0, 2), 120);
        Check.due("none", x.between(2, 0), 0);
        Check.due("full", x.between(0, 1), 16);
        Check.due("none from above", x.between(1, 0), 0);
        Check.due("equal ones, empty and full", Slots.of("", FULL_OF_ONE).between(1, 0), 1);
        Check.due("one step", Slots.of("", "3").between(0, 1), 2);
        Check.due("neither lies in the other", Slots.of("0", "3").between(0, 1), 0);
    }

    /** Promise 16: "BAD_ARG if there are no such slots." */
    private static void betweenRefusesWrongSlots() {
        Boundaries.refusesWrongPairs("between", BAD_ARG, CoxeterWords::between);
    }

    /** Promise 17: "The least k >= 1 such that [...] joined k times is equal to the empty word" */
    private static void orderOfTheEdges() {
        asked("order", CoxeterWords::order, "", 1);
        asked("order", CoxeterWords::order, FULL_OF_ONE, 1);
        asked("order", CoxeterWords::order, FULL_OF_ONE.substring(1), 2);
        asked("order", CoxeterWords::order, "013", 6);
        // Joined, the word has many more than 24 letters.
        asked("order", CoxeterWords::order, FULL_WORD, 5);
        asked("order", CoxeterWords::order, LONGEST_MADE_FULL, 2);
        asked("order", CoxeterWords::order, "013222222222222222222222", 5);
        asked("order", CoxeterWords::order, "01333333333333333333333", 6);
    }

    /** Promise 18: "Whether there is a word v": the empty v, and ends of the slots. */
    private static void alikeOfTheEdges() {
        for (String[] words : Boundaries.STATES) {
            CoxeterWords x = Slots.of(words);
            for (int s = 0; s < 3; s++) {
                Check.due("alike itself", x.alike(s, s), true);
            }
        }
        CoxeterWords x = Slots.of("", FULL_OF_ONE, FULL_WORD);
        Check.due("equal to the empty word", x.alike(0, 1), true);
        Check.due("empty and full", x.alike(0, 2), false);
        Check.due("full and empty", x.alike(2, 0), false);
        Check.due("full and full", x.alike(1, 2), false);
        Check.due("full and turned", Slots.of(FULL_WORD, "3210").alike(0, 1), true);
        // Both of order 2, but there is no v for them.
        Check.due("02 and 0", Slots.of("02", "0").alike(0, 1), false);
        // Only a longer v does it: 0 and 3 are furthest apart.
        Check.due("0 and 3", Slots.of("0", "3").alike(0, 1), true);
    }

    /** Promise 18: "false if there are no such slots." */
    private static void alikeIsFalseIfThereAreNoSuchSlots() {
        Boundaries.refusesWrongPairs("alike", 0, (x, s, r) -> Boundaries.number(x.alike(s, r)));
    }

    /** In each slot, between words that would give other answers; no question changes them. */
    private static void asked(String name, Boundaries.OneSlot question, String word, long want) {
        for (int s = 0; s < 3; s++) {
            String[] words = {"012", "012", "012"};
            words[s] = word;
            CoxeterWords x = Slots.of(words);
            Check.due(name + " of " + word, question.ask(x, s), want);
            Check.due("slots after " + name, Slots.all(x), String.join("/", words));
        }
    }
}
