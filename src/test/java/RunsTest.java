/**
 * Runs of 512 calls on one object, arguments right and wrong, each answer compared with three
 * written words and Reference: what one call leaves behind must not mislead a later one.
 */
public final class RunsTest {
    private static final int RUNS = 200;
    private static final int CALLS = 512;

    private static long seed = 512L;

    private static CoxeterWords x;
    private static final String[] words = new String[3];

    public static void main(String[] args) {
        for (int run = 0; run < RUNS; run++) {
            x = new CoxeterWords();
            for (int s = 0; s < 3; s++) {
                words[s] = "";
            }
            for (int call = 1; call <= CALLS; call++) {
                oneCall("run " + run + ", call " + call + ": ");
            }
        }
        Check.end();
    }

    private static void oneCall(String name) {
        int s = slot();
        int kind = draw(40);
        if (kind < 20) {
            push(name, s, draw(20) == 0 ? wrong(Boundaries.NO_LETTERS) : draw(4));
        } else if (kind < 25) {
            change(name, s);
        } else if (kind < 32) {
            askOne(name, s);
        } else if (kind < 36) {
            askTwo(name, s, slot());
        } else {
            letter(name, s, draw(4) == 0 ? wrong(Boundaries.NO_PLACES) : draw(25));
        }
    }

    private static void push(String name, int s, int a) {
        int want = Boundaries.BAD_ARG;
        if (isSlot(s) && a >= 0 && a <= 3) {
            want = Boundaries.FULL;
            if (words[s].length() < 24) {
                words[s] += a;
                want = words[s].length();
            }
        }
        Check.due(name + "push " + s + " " + a, x.push(s, a), want);
    }

    private static void change(String name, int s) {
        String old = isSlot(s) ? words[s] : "";
        switch (draw(16)) {
            case 0 -> Check.due(name + "clear " + s, x.clear(s), known(s, old.length(), ""));
            case 1, 2 -> {
                String first = Reference.first(old);
                Check.due(name + "shorten " + s, x.shorten(s), known(s, first.length(), first));
            }
            case 3, 4, 5, 6 -> Check.due(name + "turn " + s, x.turn(s),
                    known(s, old.length(), Reference.turned(old)));
            default -> {
                int last = old.length() - 1;
                int want = last < 0 ? Boundaries.NONE : old.charAt(last) - '0';
                String rest = last < 0 ? "" : old.substring(0, last);
                Check.due(name + "pop " + s, x.pop(s), known(s, want, rest));
            }
        }
    }

    /** The answer that is due; the slot, if there is such a one, has the new word. */
    private static int known(int s, int answer, String word) {
        if (!isSlot(s)) {
            return Boundaries.BAD_ARG;
        }
        words[s] = word;
        return answer;
    }

    private static void askOne(String name, int s) {
        String word = isSlot(s) ? words[s] : "";
        switch (draw(7)) {
            case 0 -> Check.due(name + "length " + s, x.length(s),
                    known(s, Reference.length(word), word));
            case 1 -> Check.due(name + "endings " + s, x.endings(s),
                    known(s, Reference.endings(word), word));
            case 2 -> Check.due(name + "beginnings " + s, x.beginnings(s),
                    known(s, Reference.beginnings(word), word));
            case 3 -> Check.due(name + "letters " + s, x.letters(s),
                    known(s, Reference.letters(word), word));
            case 4 -> Check.due(name + "shortWords " + s, x.shortWords(s),
                    known(s, Reference.shortWords(word).size(), word));
            case 5 -> Check.due(name + "order " + s, x.order(s),
                    known(s, Reference.order(word), word));
            default -> Check.due(name + "size " + s, x.size(s), known(s, word.length(), word));
        }
    }

    private static void askTwo(String name, int s, int r) {
        boolean both = isSlot(s) && isSlot(r);
        String one = both ? words[s] : "";
        String two = both ? words[r] : "";
        String pair = " " + s + " " + r;
        switch (draw(4)) {
            case 0 -> Check.due(name + "equal" + pair, x.equal(s, r),
                    both && Reference.first(one).equals(Reference.first(two)));
            case 1 -> Check.due(name + "lies" + pair, x.lies(s, r),
                    both && Reference.lies(one, two));
            case 2 -> Check.due(name + "between" + pair, x.between(s, r),
                    both ? Reference.between(one, two) : Boundaries.BAD_ARG);
            default -> Check.due(name + "alike" + pair, x.alike(s, r),
                    both && Reference.alike(one, two));
        }
    }

    private static void letter(String name, int s, int i) {
        int want = Boundaries.BAD_ARG;
        if (isSlot(s)) {
            boolean there = i >= 0 && i < words[s].length();
            want = there ? words[s].charAt(i) - '0' : Boundaries.NONE;
        }
        Check.due(name + "letter " + s + " " + i, x.letter(s, i), want);
    }

    private static boolean isSlot(int s) {
        return s >= 0 && s <= 2;
    }

    private static int slot() {
        return draw(16) == 0 ? wrong(Boundaries.NO_SLOTS) : draw(3);
    }

    private static int wrong(int[] numbers) {
        return numbers[draw(numbers.length)];
    }

    /** The same numbers on every run. */
    private static int draw(int bound) {
        seed = seed * 6364136223846793005L + 1442695040888963407L;
        return (int) ((seed >>> 33) % bound);
    }
}
