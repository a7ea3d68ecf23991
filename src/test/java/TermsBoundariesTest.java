/** The section Terms: one test for each sentence that names a boundary; the sentence stands above it. */
public final class TermsBoundariesTest {
    private static final int BAD_ARG = Boundaries.BAD_ARG;
    private static final int FULL = Boundaries.FULL;
    private static final int NONE = Boundaries.NONE;

    public static void main(String[] args) {
        lettersAreZeroToThree();
        aWordMayBeEmpty();
        equalLettersAreTakenOutAnywhere();
        equalLettersArePutInAnywhere();
        lettersApartChangePlaces();
        neighboursDoNotChangePlaces();
        threeLettersOfNeighboursAreExchanged();
        threeLettersApartAreNotExchanged();
        equalByAnyNumberOfExchanges();
        lengthIsTheLeastNumber();
        crossingOutNoneOrAll();
        crossingOutOfShortWordsOnly();
        slotsAreZeroToTwo();
        atMostTwentyFourLettersEach();
        noCallThrows();
        constants();
        fiveHundredAndTwelveCalls();
        Check.end();
    }

    /** "LETTERS are 0 to 3." */
    private static void lettersAreZeroToThree() {
        CoxeterWords x = new CoxeterWords();
        Check.due("letter below the least", x.push(0, -1), BAD_ARG);
        Check.due("least letter", x.push(0, 0), 1);
        Check.due("greatest letter", x.push(0, 3), 2);
        Check.due("letter above the greatest", x.push(0, 4), BAD_ARG);
        Check.due("the word", Slots.word(x, 0), "03");
    }

    /** "A WORD is a list of letters; it may be empty." */
    private static void aWordMayBeEmpty() {
        CoxeterWords x = Slots.of("", "0");
        Check.due("size of the empty word", x.size(0), 0);
        Check.due("length of the empty word", x.length(0), 0);
        Check.due("empty lies in empty", x.lies(0, 2), true);
        Check.due("empty equals empty", x.equal(0, 2), true);
        Check.due("empty equals one letter", x.equal(0, 1), false);
        Check.due("emptied by pop", x.pop(1), 0);
        Check.due("emptied word equals empty", x.equal(0, 1), true);
    }

    /** "at any place of the word: two equal letters next to each other are taken out" */
    private static void equalLettersAreTakenOutAnywhere() {
        for (int a = 0; a < 4; a++) {
            String pair = "" + a + a;
            for (int i = 0; i <= 4; i++) {
                isEqual("0123".substring(0, i) + pair + "0123".substring(i), "0123", true);
            }
            isEqual(pair, "", true);
            isEqual(pair + a, "" + a, true);
        }
        // Not next to each other: a neighbour stands between.
        isEqual("010", "1", false);
        isEqual("232", "3", false);
    }

    /** "or put in": up to the full word. */
    private static void equalLettersArePutInAnywhere() {
        isEqual("", "012332100123321001233210", true);
        isEqual("03", "000000000000000000000003", true);
        isEqual("03", "033333333333333333333333", true);
        isEqual("12", Boundaries.FULL_OF_ONE, false);
    }

    /** "letters a b next to each other that differ by 2 or 3 become b a" */
    private static void lettersApartChangePlaces() {
        for (int a = 0; a < 4; a++) {
            for (int b = 0; b < 4; b++) {
                if (Math.abs(a - b) >= 2) {
                    atEachPlace("" + a + b, "" + b + a, true);
                }
            }
        }
    }

    /** The other side of that boundary: a difference of 1. */
    private static void neighboursDoNotChangePlaces() {
        for (int a = 0; a < 3; a++) {
            int b = a + 1;
            atEachPlace("" + a + b, "" + b + a, false);
        }
    }

    /** "letters a b a next to each other, where a and b differ by 1, become b a b" */
    private static void threeLettersOfNeighboursAreExchanged() {
        for (int a = 0; a < 3; a++) {
            int b = a + 1;
            atEachPlace("" + a + b + a, "" + b + a + b, true);
        }
    }

    /** The other side of that boundary: a difference of 2 or 3. */
    private static void threeLettersApartAreNotExchanged() {
        for (int a = 0; a < 4; a++) {
            for (int b = a + 2; b < 4; b++) {
                atEachPlace("" + a + b + a, "" + b + a + b, false);
                atEachPlace("" + a + b + a, "" + b, true);
            }
        }
    }

    /** In front of, inside, behind other letters, and at both ends of a full word. */
    private static void atEachPlace(String one, String two, boolean want) {
        isEqual(one, two, want);
        String other = "0213";
        for (int i = 0; i <= other.length(); i++) {
            String front = other.substring(0, i);
            String back = other.substring(i);
            isEqual(front + one + back, front + two + back, want);
        }
        String most = Boundaries.FULL_WORD.substring(3);
        if (one.length() == 3 && two.length() == 3) {
            isEqual(one + most, two + most, want);
            isEqual(most + one, most + two, want);
        }
    }

    private static void isEqual(String one, String two, boolean want) {
        CoxeterWords x = Slots.of(one, two);
        Check.due(one + " equals " + two, x.equal(0, 1), want);
        Check.due(two + " equals " + one, x.equal(1, 0), want);
    }

    /** "Two words are EQUAL if one can be changed into the other by any number of exchanges." */
    private static void equalByAnyNumberOfExchanges() {
        // No exchange at all, many of them, and no number that is enough.
        isEqual(Boundaries.FULL_WORD, Boundaries.FULL_WORD, true);
        isEqual(Boundaries.LONGEST, "3231230123", true);
        isEqual("01230123012301230123", "", true);
        isEqual(Boundaries.FULL_WORD, "0123", true);
        isEqual(Boundaries.FULL_WORD, "3210", false);
    }

    /** "The LENGTH of a word is the least number of letters of a word that is equal to it" */
    private static void lengthIsTheLeastNumber() {
        Check.due("least of all", Slots.of("").length(0), 0);
        Check.due("one", Slots.of("3").length(0), 1);
        Check.due("full word of length 0", Slots.of(Boundaries.FULL_OF_ONE).length(0), 0);
        Check.due("one below full, length 1",
                Slots.of(Boundaries.FULL_OF_ONE.substring(1)).length(0), 1);
        Check.due("greatest of all", Slots.of(Boundaries.LONGEST).length(0), 10);
        for (int a = 0; a < 4; a++) {
            Check.due("no word is longer", Slots.of(Boundaries.LONGEST + a).length(0), 9);
        }
        Check.due("full word of the greatest length",
                Slots.of(Boundaries.LONGEST + "00112233001122").length(0), 10);
    }

    /** "letters can be crossed out such that a word equal to u is left": none, and all. */
    private static void crossingOutNoneOrAll() {
        for (String word : new String[] {"", "2", "0123", Boundaries.LONGEST}) {
            CoxeterWords x = Slots.of(word, word, "");
            Check.due("none crossed out of " + word, x.lies(0, 1), true);
            Check.due("all crossed out of " + word, x.lies(2, 1), true);
            Check.due("only empty lies in empty: " + word, x.lies(1, 2), word.isEmpty());
        }
    }

    /** "out of some short word that is equal to w": not out of w if w is not short. */
    private static void crossingOutOfShortWordsOnly() {
        Check.due("0 in 00", Slots.of("0", "00").lies(0, 1), false);
        Check.due("0 in 000", Slots.of("0", "000").lies(0, 1), true);
        Check.due("0 in 020", Slots.of("0", "020").lies(0, 1), false);
        Check.due("3 in full of 3", Slots.of("3", Boundaries.FULL_OF_ONE).lies(0, 1), false);
        Check.due("full of 3 in 1", Slots.of(Boundaries.FULL_OF_ONE, "1").lies(0, 1), true);
        // What is left need only be equal to u, not written like it.
        Check.due("20 in 0121", Slots.of("20", "0121").lies(0, 1), true);
        Check.due("212 in 0121", Slots.of("212", "0121").lies(0, 1), true);
    }

    /** "There are three SLOTS, 0 to 2" */
    private static void slotsAreZeroToTwo() {
        CoxeterWords x = new CoxeterWords();
        Check.due("slot below the least", x.push(-1, 1), BAD_ARG);
        Check.due("least slot", x.push(0, 1), 1);
        Check.due("middle slot", x.push(1, 2), 1);
        Check.due("greatest slot", x.push(2, 3), 1);
        Check.due("slot above the greatest", x.push(3, 1), BAD_ARG);
        Check.due("the words", Slots.all(x), "1/2/3");
    }

    /** "with a word of at most 24 letters each": all three can be full at once. */
    private static void atMostTwentyFourLettersEach() {
        CoxeterWords x = new CoxeterWords();
        for (int i = 0; i < 24; i++) {
            for (int s = 0; s < 3; s++) {
                Check.due("push " + i + " on " + s, x.push(s, (i + s) % 4), i + 1);
            }
        }
        for (int s = 0; s < 3; s++) {
            Check.due("letter 25", x.push(s, s), FULL);
            Check.due("size", x.size(s), 24);
        }
        Check.due("the words", Slots.all(x),
                "012301230123012301230123/123012301230123012301230/230123012301230123012301");
    }

    /** "No call ever throws.": ends of int, edges and wrong numbers, in every state. */
    private static void noCallThrows() {
        int[] numbers = {Integer.MIN_VALUE, Integer.MIN_VALUE + 1, -(1 << 29), -72, -25, -24, -3,
            -2, -1, 0, 1, 2, 3, 4, 5, 23, 24, 25, 71, 72, 73, 120, 480, 14400, 1 << 29,
            1 << 30, Integer.MAX_VALUE - 1, Integer.MAX_VALUE};
        for (String[] words : Boundaries.STATES) {
            for (int p : numbers) {
                everyCallOfOne(Slots.of(words), p);
                for (int q : numbers) {
                    everyCallOfTwo(Slots.of(words), p, q);
                }
            }
        }
    }

    private static void everyCallOfOne(CoxeterWords x, int p) {
        ends("length " + p, () -> x.length(p));
        ends("endings " + p, () -> x.endings(p));
        ends("beginnings " + p, () -> x.beginnings(p));
        ends("letters " + p, () -> x.letters(p));
        ends("shortWords " + p, () -> x.shortWords(p));
        ends("order " + p, () -> x.order(p));
        ends("size " + p, () -> x.size(p));
        ends("turn " + p, () -> x.turn(p));
        ends("pop " + p, () -> x.pop(p));
        ends("shorten " + p, () -> x.shorten(p));
        ends("clear " + p, () -> x.clear(p));
        ends("pop of cleared " + p, () -> x.pop(p));
        ends("turn of cleared " + p, () -> x.turn(p));
        ends("shorten of cleared " + p, () -> x.shorten(p));
    }

    private static void everyCallOfTwo(CoxeterWords x, int p, int q) {
        ends("push " + p + " " + q, () -> x.push(p, q));
        ends("letter " + p + " " + q, () -> x.letter(p, q));
        ends("equal " + p + " " + q, () -> x.equal(p, q));
        ends("lies " + p + " " + q, () -> x.lies(p, q));
        ends("between " + p + " " + q, () -> x.between(p, q));
        ends("alike " + p + " " + q, () -> x.alike(p, q));
    }

    private static void ends(String name, Runnable call) {
        boolean threw = false;
        try {
            call.run();
        } catch (RuntimeException e) {
            threw = true;
        }
        Check.due(name + " throws", threw, false);
    }

    /** "BAD_ARG = -1", "FULL = -2", "NONE = -4": each as the answer of the call that it is for. */
    private static void constants() {
        Check.due("BAD_ARG", CoxeterWords.BAD_ARG, -1);
        Check.due("FULL", CoxeterWords.FULL, -2);
        Check.due("NONE", CoxeterWords.NONE, -4);
        CoxeterWords x = Slots.of(Boundaries.FULL_WORD);
        Check.due("an argument is out of its range", x.size(3), CoxeterWords.BAD_ARG);
        Check.due("the word has 24 letters", x.push(0, 0), CoxeterWords.FULL);
        Check.due("there is no such thing", x.letter(0, 24), CoxeterWords.NONE);
        Check.due("there is no such thing", x.pop(1), NONE);
    }

    /** "An object is used for at most 512 calls after it has been made": the last is right too. */
    private static void fiveHundredAndTwelveCalls() {
        CoxeterWords x = Slots.of("013", "023");
        for (int call = 7; call <= 510; call += 4) {
            Check.due("push at call " + call, x.push(2, 3), 1);
            Check.due("alike at call " + (call + 1), x.alike(0, 1), true);
            Check.due("order at call " + (call + 2), x.order(0), 6);
            Check.due("pop at call " + (call + 3), x.pop(2), 3);
        }
        Check.due("shorten at call 511", x.shorten(1), 3);
        Check.due("letter at call 512", x.letter(1, 2), 3);
    }
}
