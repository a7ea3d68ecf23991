/** Promises 1 to 6: one test for each sentence that names a boundary; the sentence stands above it. */
public final class ChangesBoundariesTest {
    private static final int BAD_ARG = Boundaries.BAD_ARG;
    private static final int FULL = Boundaries.FULL;
    private static final int NONE = Boundaries.NONE;
    private static final String FULL_WORD = Boundaries.FULL_WORD;

    public static void main(String[] args) {
        newWordsAreEmpty();
        newWordsAreEmptyBesideOtherObjects();
        pushAnswersTheNumberOfLetters();
        pushRefusesWrongSlots();
        pushRefusesWrongLetters();
        pushRefusesTwoWrongArguments();
        pushTestsArgumentsBeforeFull();
        pushRefusesAFullWord();
        pushAfterAFullWord();
        popAnswersTheLastLetter();
        popRefusesWrongSlots();
        popRefusesTheEmptyWord();
        popAfterTheWordBecameEmpty();
        clearAnswersTheNumberOfLetters();
        clearRefusesWrongSlots();
        clearedIsEmptyFromNowOn();
        shortenOfTheEdges();
        shortenTakesTheFirstInADictionary();
        shortenLeavesNothingBehind();
        shortenRefusesWrongSlots();
        turnOfTheEdges();
        turnRefusesWrongSlots();
        Check.end();
    }

    /** Promise 1: "All three words are empty." */
    private static void newWordsAreEmpty() {
        CoxeterWords x = new CoxeterWords();
        Check.due("new words", Slots.all(x), "//");
        for (int s = 0; s < 3; s++) {
            Check.due("new size", x.size(s), 0);
            Check.due("new letter 0", x.letter(s, 0), NONE);
            Check.due("new letter 23", x.letter(s, 23), NONE);
            Check.due("new pop", x.pop(s), NONE);
            Check.due("first push", x.push(s, 0), 1);
        }
    }

    /** The same while another object is full. */
    private static void newWordsAreEmptyBesideOtherObjects() {
        CoxeterWords full = Slots.of(Boundaries.STATES[1]);
        CoxeterWords x = new CoxeterWords();
        Check.due("new words beside a full object", Slots.all(x), "//");
        Check.due("full object", full.size(0) + full.size(1) + full.size(2), 72);
    }

    /** Promise 2: "Otherwise the number of its letters.": 1 to 24. */
    private static void pushAnswersTheNumberOfLetters() {
        for (int s = 0; s < 3; s++) {
            for (int a = 0; a < 4; a++) {
                CoxeterWords x = new CoxeterWords();
                for (int n = 1; n <= 24; n++) {
                    Check.due("push " + a + " on " + s, x.push(s, a), n);
                    Check.due("last letter", x.letter(s, n - 1), a);
                }
            }
        }
    }

    /** Promise 2: "s not 0 to 2 [...] answers BAD_ARG" */
    private static void pushRefusesWrongSlots() {
        for (int s : Boundaries.NO_SLOTS) {
            for (int a = 0; a < 4; a++) {
                int letter = a;
                Boundaries.refused("push(" + s + ", " + a + ")", BAD_ARG, x -> x.push(s, letter));
            }
        }
    }

    /** Promise 2: "or a not 0 to 3 answers BAD_ARG" */
    private static void pushRefusesWrongLetters() {
        for (int a : Boundaries.NO_LETTERS) {
            for (int s = 0; s < 3; s++) {
                int slot = s;
                Boundaries.refused("push(" + s + ", " + a + ")", BAD_ARG, x -> x.push(slot, a));
            }
        }
    }

    /** The same with both out of their range. */
    private static void pushRefusesTwoWrongArguments() {
        for (int s : Boundaries.NO_SLOTS) {
            for (int a : Boundaries.NO_LETTERS) {
                Boundaries.refused("push(" + s + ", " + a + ")", BAD_ARG, x -> x.push(s, a));
            }
        }
    }

    /** Promise 2: "Tested in this order: s not 0 to 2 or a not 0 to 3 answers BAD_ARG; FULL." */
    private static void pushTestsArgumentsBeforeFull() {
        for (int s = 0; s < 3; s++) {
            CoxeterWords x = Slots.of(Boundaries.STATES[1]);
            Check.due("full, letter too small", x.push(s, -1), BAD_ARG);
            Check.due("full, letter too large", x.push(s, 4), BAD_ARG);
            Check.due("full, least int", x.push(s, Integer.MIN_VALUE), BAD_ARG);
            Check.due("full, greatest int", x.push(s, Integer.MAX_VALUE), BAD_ARG);
            Check.due("full, least letter", x.push(s, 0), FULL);
            Check.due("full, greatest letter", x.push(s, 3), FULL);
        }
        CoxeterWords x = Slots.of(Boundaries.STATES[1]);
        Check.due("all full, slot too small", x.push(-1, 0), BAD_ARG);
        Check.due("all full, slot too large", x.push(3, 0), BAD_ARG);
    }

    /** Promise 2: "FULL": at 24 letters, not at 23, whatever the length of the word is. */
    private static void pushRefusesAFullWord() {
        for (int s = 0; s < 3; s++) {
            for (int a = 0; a < 4; a++) {
                int slot = s;
                int letter = a;
                Boundaries.refusedIn(Boundaries.STATES[1], "push(" + s + ", " + a + ")", FULL,
                        x -> x.push(slot, letter));
            }
        }
        CoxeterWords x = Slots.of(FULL_WORD.substring(1), Boundaries.FULL_OF_ONE);
        Check.due("push on 23 letters", x.push(0, 2), 24);
        Check.due("push on 24 letters", x.push(0, 2), FULL);
        Check.due("push on 24 letters of length 0", x.push(1, 3), FULL);
        Check.due("push beside full words", x.push(2, 1), 1);
    }

    /** A word is full no longer when it has fewer letters again; turning leaves it full. */
    private static void pushAfterAFullWord() {
        CoxeterWords x = Slots.of(FULL_WORD, FULL_WORD, FULL_WORD);
        Check.due("turn", x.turn(0), 24);
        Check.due("push after turn", x.push(0, 1), FULL);
        Check.due("pop", x.pop(0), 0);
        Check.due("push after pop", x.push(0, 3), 24);
        Check.due("push when full again", x.push(0, 3), FULL);
        Check.due("clear", x.clear(1), 24);
        Check.due("push after clear", x.push(1, 2), 1);
        Check.due("shorten", x.shorten(2), 4);
        Check.due("push after shorten", x.push(2, 3), 5);
        Check.due("the words", Slots.all(x), "321032103210321032103213/2/01233");
    }

    /** Promise 3: "Otherwise that letter.": from 24 letters down to none. */
    private static void popAnswersTheLastLetter() {
        for (int s = 0; s < 3; s++) {
            CoxeterWords x = Slots.of(FULL_WORD, FULL_WORD, FULL_WORD);
            for (int n = 23; n >= 0; n--) {
                Check.due("pop", x.pop(s), n % 4);
                Check.due("size after pop", x.size(s), n);
                Check.due("letter after pop", x.letter(s, n), NONE);
            }
            Check.due("pop of what is empty now", x.pop(s), NONE);
            Check.due("other slots", x.size((s + 1) % 3) + x.size((s + 2) % 3), 48);
        }
    }

    /** Promise 3: "BAD_ARG if s is not 0 to 2" */
    private static void popRefusesWrongSlots() {
        Boundaries.refusesWrongSlots("pop", CoxeterWords::pop);
    }

    /** Promise 3: "NONE if it is empty" */
    private static void popRefusesTheEmptyWord() {
        for (int s = 0; s < 3; s++) {
            int slot = s;
            String[] words = {FULL_WORD, FULL_WORD, FULL_WORD};
            words[s] = "";
            Boundaries.refusedIn(words, "pop(" + s + ")", NONE, x -> x.pop(slot));
            Boundaries.refusedIn(Boundaries.STATES[0], "pop(" + s + ")", NONE, x -> x.pop(slot));
        }
    }

    /** The same however the word became empty. */
    private static void popAfterTheWordBecameEmpty() {
        CoxeterWords x = Slots.of("0", "12", "3223");
        Check.due("pop", x.pop(0), 0);
        Check.due("pop after pop", x.pop(0), NONE);
        Check.due("clear", x.clear(1), 2);
        Check.due("pop after clear", x.pop(1), NONE);
        Check.due("shorten", x.shorten(2), 0);
        Check.due("pop after shorten", x.pop(2), NONE);
        Check.due("push after pop of empty", x.push(2, 2), 1);
        Check.due("pop of one letter", x.pop(2), 2);
    }

    /** Promise 4: "Otherwise the number of letters it had.": 0 to 24, not the length. */
    private static void clearAnswersTheNumberOfLetters() {
        for (int s = 0; s < 3; s++) {
            for (int n = 0; n <= 24; n++) {
                CoxeterWords x = new CoxeterWords();
                Slots.push(x, s, Boundaries.FULL_OF_ONE.substring(0, n));
                Check.due("clear " + n, x.clear(s), n);
                Check.due("clear again", x.clear(s), 0);
            }
        }
    }

    /** Promise 4: "BAD_ARG if s is not 0 to 2." */
    private static void clearRefusesWrongSlots() {
        Boundaries.refusesWrongSlots("clear", CoxeterWords::clear);
    }

    /** Promise 4: "The word in slot s is empty from now on." */
    private static void clearedIsEmptyFromNowOn() {
        for (int s = 0; s < 3; s++) {
            CoxeterWords x = Slots.of(FULL_WORD, FULL_WORD, FULL_WORD);
            x.clear(s);
            String[] words = {FULL_WORD, FULL_WORD, FULL_WORD};
            words[s] = "";
            Check.due("all that can be seen after clear", Boundaries.everything(x),
                    Boundaries.everything(Slots.of(words)));
        }
    }

    /** Promise 5: "Otherwise the number of its letters.": after shortening, 0 to 10. */
    private static void shortenOfTheEdges() {
        shortened("", "");
        shortened("3", "3");
        shortened("33", "");
        shortened(Boundaries.FULL_OF_ONE, "");
        shortened(Boundaries.FULL_OF_ONE.substring(1), "3");
        shortened(FULL_WORD, "0123");
        shortened(Boundaries.LONGEST, Boundaries.LONGEST);
        shortened("33221100332211" + "3231230123", Boundaries.LONGEST);
    }

    /** Promise 5: "the first, in the order of a dictionary, of the short words" */
    private static void shortenTakesTheFirstInADictionary() {
        shortened("20", "02");
        shortened("30", "03");
        shortened("31", "13");
        shortened("101", "010");
        shortened("212", "121");
        shortened("323", "232");
        // The first letter counts most: 1 0 2 stands before 1 2 0, 1 3 2 before 3 1 2.
        shortened("120", "102");
        shortened("312", "132");
        shortened("3212", "1321");
        shortened("3210323123", Boundaries.LONGEST);
    }

    private static void shortened(String word, String want) {
        for (int s = 0; s < 3; s++) {
            String[] words = {FULL_WORD, FULL_WORD, FULL_WORD};
            words[s] = word;
            CoxeterWords x = Slots.of(words);
            Check.due("shorten " + word, x.shorten(s), want.length());
            words[s] = want;
            Check.due("slots after shorten of " + word, Slots.all(x), String.join("/", words));
            Check.due("shorten again " + word, x.shorten(s), want.length());
        }
    }

    /** The letters that the word had behind its new end are gone. */
    private static void shortenLeavesNothingBehind() {
        CoxeterWords x = Slots.of(FULL_WORD, FULL_WORD, FULL_WORD);
        Check.due("shorten", x.shorten(1), 4);
        Check.due("all that can be seen after shorten", Boundaries.everything(x),
                Boundaries.everything(Slots.of(FULL_WORD, "0123", FULL_WORD)));
    }

    /** Promise 5: "BAD_ARG if s is not 0 to 2." */
    private static void shortenRefusesWrongSlots() {
        Boundaries.refusesWrongSlots("shorten", CoxeterWords::shorten);
    }

    /** Promise 6: "Otherwise the number of its letters.": every number from 0 to 24. */
    private static void turnOfTheEdges() {
        for (int s = 0; s < 3; s++) {
            for (int n = 0; n <= 24; n++) {
                String[] words = {FULL_WORD, FULL_WORD, FULL_WORD};
                words[s] = FULL_WORD.substring(0, n);
                CoxeterWords x = Slots.of(words);
                Check.due("turn " + words[s], x.turn(s), n);
                words[s] = Reference.turned(words[s]);
                Check.due("slots after turn", Slots.all(x), String.join("/", words));
            }
        }
    }

    /** Promise 6: "BAD_ARG if s is not 0 to 2." */
    private static void turnRefusesWrongSlots() {
        Boundaries.refusesWrongSlots("turn", CoxeterWords::turn);
    }
}
