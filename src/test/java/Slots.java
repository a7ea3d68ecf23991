/** Puts words, written as digits, into the slots of an object and reads them back. */
final class Slots {
    private Slots() {}

    static CoxeterWords of(String... words) {
        CoxeterWords x = new CoxeterWords();
        for (int s = 0; s < words.length; s++) {
            push(x, s, words[s]);
        }
        return x;
    }

    static void push(CoxeterWords x, int s, String word) {
        for (int i = 0; i < word.length(); i++) {
            x.push(s, word.charAt(i) - '0');
        }
    }

    static String word(CoxeterWords x, int s) {
        StringBuilder word = new StringBuilder();
        for (int i = 0; i < x.size(s); i++) {
            word.append(x.letter(s, i));
        }
        return word.toString();
    }

    static String all(CoxeterWords x) {
        return word(x, 0) + "/" + word(x, 1) + "/" + word(x, 2);
    }
}
