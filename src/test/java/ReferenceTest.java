import java.util.List;

/** Compares the class with Reference: all words up to equality, all pairs of them, and long words. */
public final class ReferenceTest {
    private static final int CAPACITY = 24;

    private static long seed = 20261115L;

    public static void main(String[] args) {
        List<String> firsts = Reference.everyFirst();
        Check.due("number of words, equal ones counted as one", firsts.size(), 120);
        for (String word : firsts) {
            everyShortWord(word);
            oneWord(word);
            for (String other : firsts) {
                twoWords(word, other);
            }
        }
        for (int n = 0; n < 3000; n++) {
            String word = someWord(n % (CAPACITY + 1));
            oneWord(word);
            twoWords(word, someWord(draw(CAPACITY + 1)));
            twoWords(word, sameWithChanges(word));
        }
        Check.end();
    }

    private static void oneWord(String word) {
        // Slot 1 has the word under test; its neighbours must not be touched.
        CoxeterWords x = Slots.of("3210", word, "0123");
        String name = "(" + word + ")";
        Check.due("size" + name, x.size(1), word.length());
        Check.due("length" + name, x.length(1), Reference.length(word));
        Check.due("endings" + name, x.endings(1), Reference.endings(word));
        Check.due("beginnings" + name, x.beginnings(1), Reference.beginnings(word));
        Check.due("letters" + name, x.letters(1), Reference.letters(word));
        Check.due("shortWords" + name, x.shortWords(1), Reference.shortWords(word).size());
        Check.due("order" + name, x.order(1), Reference.order(word));
        Check.due("slots after questions " + name, Slots.all(x), "3210/" + word + "/0123");

        String turned = Reference.turned(word);
        Check.due("turn" + name, x.turn(1), word.length());
        Check.due("slots after turn" + name, Slots.all(x), "3210/" + turned + "/0123");

        String first = Reference.first(turned);
        Check.due("shorten turned " + name, x.shorten(1), first.length());
        Check.due("slots after shorten turned " + name, Slots.all(x), "3210/" + first + "/0123");
    }

    private static void everyShortWord(String first) {
        for (String word : Reference.shortWords(first)) {
            CoxeterWords x = Slots.of("", "", word);
            Check.due("length(" + word + ")", x.length(2), word.length());
            Check.due("shorten(" + word + ")", x.shorten(2), word.length());
            Check.due("shortened " + word, Slots.word(x, 2), first);
        }
    }

    private static void twoWords(String one, String two) {
        CoxeterWords x = Slots.of(one, "", two);
        String name = "(" + one + ", " + two + ")";
        boolean equal = Reference.first(one).equals(Reference.first(two));
        Check.due("equal" + name, x.equal(0, 2), equal);
        Check.due("lies" + name, x.lies(0, 2), Reference.lies(one, two));
        Check.due("between" + name, x.between(0, 2), Reference.between(one, two));
        Check.due("alike" + name, x.alike(0, 2), Reference.alike(one, two));
        Check.due("slots after questions " + name, Slots.all(x), one + "//" + two);
    }

    private static String someWord(int size) {
        StringBuilder word = new StringBuilder();
        for (int i = 0; i < size; i++) {
            word.append(draw(4));
        }
        return word.toString();
    }

    /** An equal word most of the time: short, with pairs of equal letters put in. */
    private static String sameWithChanges(String word) {
        StringBuilder changed = new StringBuilder(Reference.shortWords(word).last());
        while (changed.length() + 2 <= CAPACITY) {
            int a = draw(4);
            changed.insert(draw(changed.length() + 1), "" + a + a);
        }
        if (draw(4) == 0) {
            changed.setCharAt(0, (char) ('0' + draw(4)));
        }
        return changed.toString();
    }

    /** The same numbers on every run. */
    private static int draw(int bound) {
        seed = seed * 6364136223846793005L + 1442695040888963407L;
        return (int) ((seed >>> 33) % bound);
    }
}
