import java.util.ArrayDeque;
import java.util.ArrayList;
import java.util.HashMap;
import java.util.List;
import java.util.Map;
import java.util.TreeSet;

/**
 * The document's terms, worked out on written words by exchanges alone: no arrangement of things
 * stands behind it, so that it can be wrong only in other ways than the class.
 */
final class Reference {
    static final String LETTERS = "0123";

    /** For the first short word of a class of equal words: all the short words of the class. */
    private static final Map<String, TreeSet<String>> CLASSES = new HashMap<>();
    private static final Map<String, String> APPENDED = new HashMap<>();
    private static final Map<String, TreeSet<String>> LYING = new HashMap<>();

    static {
        CLASSES.put("", new TreeSet<>(List.of("")));
    }

    private Reference() {}

    /** The first of the short words that are equal to the word. */
    static String first(String word) {
        String first = "";
        for (char a : word.toCharArray()) {
            first = append(first, a);
        }
        return first;
    }

    static TreeSet<String> shortWords(String word) {
        return CLASSES.get(first(word));
    }

    /** The first short words of all classes. */
    static List<String> everyFirst() {
        TreeSet<String> seen = new TreeSet<>(List.of(""));
        ArrayDeque<String> open = new ArrayDeque<>(seen);
        while (!open.isEmpty()) {
            String word = open.remove();
            for (char a : LETTERS.toCharArray()) {
                String next = first(word + a);
                if (seen.add(next)) {
                    open.add(next);
                }
            }
        }
        return new ArrayList<>(seen);
    }

    static int length(String word) {
        return first(word).length();
    }

    static int endings(String word) {
        int set = 0;
        for (int a = 0; a < 4; a++) {
            set += length(word + a) < length(word) ? 1 << a : 0;
        }
        return set;
    }

    static int beginnings(String word) {
        int set = 0;
        for (int a = 0; a < 4; a++) {
            set += length(a + word) < length(word) ? 1 << a : 0;
        }
        return set;
    }

    static int letters(String word) {
        int set = 0;
        for (String each : shortWords(word)) {
            for (char a : each.toCharArray()) {
                set |= 1 << (a - '0');
            }
        }
        return set;
    }

    static boolean lies(String u, String w) {
        return lying(w).contains(first(u));
    }

    static int between(String low, String high) {
        int count = 0;
        for (String each : lying(high)) {
            count += lies(low, each) ? 1 : 0;
        }
        return count;
    }

    static int order(String word) {
        String joined = first(word);
        int k = 1;
        while (!joined.isEmpty()) {
            joined = first(joined + word);
            k++;
        }
        return k;
    }

    static boolean alike(String s, String r) {
        for (String v : everyFirst()) {
            if (first(v + s).equals(first(r + v))) {
                return true;
            }
        }
        return false;
    }

    static String turned(String word) {
        return new StringBuilder(word).reverse().toString();
    }

    /** What is left, as first short words, when letters of any short word of w are crossed out. */
    private static TreeSet<String> lying(String w) {
        String key = first(w);
        TreeSet<String> known = LYING.get(key);
        if (known == null) {
            known = new TreeSet<>();
            for (String each : shortWords(key)) {
                known.addAll(crossedOut(each));
            }
            LYING.put(key, known);
        }
        return known;
    }

    private static TreeSet<String> crossedOut(String word) {
        TreeSet<String> left = new TreeSet<>(List.of(""));
        for (char a : word.toCharArray()) {
            for (String each : List.copyOf(left)) {
                left.add(append(each, a));
            }
        }
        return left;
    }

    private static String append(String first, char a) {
        String key = first + a;
        String known = APPENDED.get(key);
        if (known == null) {
            TreeSet<String> words = shortWordsAppended(first, a);
            known = words.first();
            CLASSES.putIfAbsent(known, words);
            APPENDED.put(key, known);
        }
        return known;
    }

    /** If a short word ends with a, two letters a are taken out; otherwise none can be. */
    private static TreeSet<String> shortWordsAppended(String first, char a) {
        TreeSet<String> words = new TreeSet<>();
        for (String each : CLASSES.get(first)) {
            if (!each.isEmpty() && each.charAt(each.length() - 1) == a) {
                words.add(each.substring(0, each.length() - 1));
            }
        }
        return words.isEmpty() ? exchanged(first + a) : words;
    }

    /** All words that the exchanges which keep the number of letters make of the word. */
    private static TreeSet<String> exchanged(String word) {
        TreeSet<String> seen = new TreeSet<>(List.of(word));
        ArrayDeque<String> open = new ArrayDeque<>(seen);
        while (!open.isEmpty()) {
            String each = open.remove();
            for (int i = 0; i + 1 < each.length(); i++) {
                String next = exchangeAt(each, i);
                if (seen.add(next)) {
                    open.add(next);
                }
            }
        }
        return seen;
    }

    private static String exchangeAt(String word, int i) {
        char a = word.charAt(i);
        char b = word.charAt(i + 1);
        int apart = Math.abs(a - b);
        if (apart >= 2) {
            return word.substring(0, i) + b + a + word.substring(i + 2);
        }
        if (apart == 1 && i + 2 < word.length() && word.charAt(i + 2) == a) {
            return word.substring(0, i) + b + a + b + word.substring(i + 3);
        }
        return word;
    }
}
