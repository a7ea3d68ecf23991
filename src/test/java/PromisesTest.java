/** Promise by promise: ordinary inputs; the boundaries have tests of their own. */
public final class PromisesTest {
    private static final int BAD_ARG = -1;
    private static final int FULL = -2;
    private static final int NONE = -4;

    private static final String LONGEST = "0102103210";
    private static final String FULL_WORD = "012301230123012301230123";

    public static void main(String[] args) {
        constants();
        newObject();
        push();
        pop();
        clear();
        shorten();
        turn();
        size();
        letter();
        length();
        equal();
        endings();
        beginnings();
        letters();
        shortWords();
        lies();
        between();
        order();
        alike();
        objectsAreApart();
        Check.end();
    }

    private static void constants() {
        Check.due("BAD_ARG", CoxeterWords.BAD_ARG, BAD_ARG);
        Check.due("FULL", CoxeterWords.FULL, FULL);
        Check.due("NONE", CoxeterWords.NONE, NONE);
    }

    private static void newObject() {
        CoxeterWords x = new CoxeterWords();
        for (int s = 0; s < 3; s++) {
            Check.due("new size", x.size(s), 0);
            Check.due("new letter", x.letter(s, 0), NONE);
            Check.due("new pop", x.pop(s), NONE);
            Check.due("new clear", x.clear(s), 0);
            Check.due("new turn", x.turn(s), 0);
            Check.due("new shorten", x.shorten(s), 0);
            Check.due("new length", x.length(s), 0);
            Check.due("new endings", x.endings(s), 0);
            Check.due("new beginnings", x.beginnings(s), 0);
            Check.due("new letters", x.letters(s), 0);
            Check.due("new shortWords", x.shortWords(s), 1);
            Check.due("new order", x.order(s), 1);
        }
    }

    private static void push() {
        for (int s = 0; s < 3; s++) {
            CoxeterWords x = new CoxeterWords();
            for (int i = 0; i < 24; i++) {
                Check.due("push", x.push(s, i % 4), i + 1);
            }
            Check.due("push FULL", x.push(s, 0), FULL);
            Check.due("push bad letter on full", x.push(s, 4), BAD_ARG);
            Check.due("push bad letter on full", x.push(s, -1), BAD_ARG);
            Check.due("full word", Slots.word(x, s), FULL_WORD);
            Check.due("other slot", x.size((s + 1) % 3), 0);
            Check.due("other slot", x.size((s + 2) % 3), 0);
            Check.due("pop of full", x.pop(s), 3);
            Check.due("push after pop", x.push(s, 1), 24);
        }
        CoxeterWords x = Slots.of("1");
        for (int a : new int[] {-1, 4, 5, Integer.MIN_VALUE, Integer.MAX_VALUE}) {
            Check.due("push bad letter " + a, x.push(0, a), BAD_ARG);
        }
        Check.due("unchanged", Slots.all(x), "1//");
    }

    private static void pop() {
        CoxeterWords x = Slots.of("0", "0321", "2");
        Check.due("pop", x.pop(1), 1);
        Check.due("pop", x.pop(1), 2);
        Check.due("slots", Slots.all(x), "0/03/2");
        Check.due("pop", x.pop(1), 3);
        Check.due("pop 0", x.pop(1), 0);
        Check.due("pop empty", x.pop(1), NONE);
        Check.due("pop empty again", x.pop(1), NONE);
        Check.due("push after empty", x.push(1, 3), 1);
        Check.due("slots", Slots.all(x), "0/3/2");
    }

    private static void clear() {
        CoxeterWords x = Slots.of("012", FULL_WORD, "33");
        Check.due("clear full", x.clear(1), 24);
        Check.due("slots", Slots.all(x), "012//33");
        Check.due("clear empty", x.clear(1), 0);
        Check.due("clear", x.clear(2), 2);
        Check.due("letter gone", x.letter(2, 0), NONE);
        Check.due("length gone", x.length(2), 0);
        Check.due("push", x.push(2, 1), 1);
        Check.due("slots", Slots.all(x), "012//1");
    }

    private static void shorten() {
        shortened("", "");
        shortened("00", "");
        shortened("2", "2");
        shortened("20", "02");
        shortened("30", "03");
        shortened("31", "13");
        shortened("10", "10");
        shortened("212", "121");
        shortened("121", "121");
        shortened("0110", "");
        shortened("3210", "3210");
        shortened("3230", "0232");
        shortened("0123210", "0123210");
        shortened("3210123", "0123210");
        shortened("3231230123", "0102103210");
        shortened(FULL_WORD, Reference.first(FULL_WORD));
        CoxeterWords x = Slots.of("11", "22202", "33");
        Check.due("shorten", x.shorten(1), 1);
        Check.due("slots", Slots.all(x), "11/0/33");
    }

    private static void shortened(String word, String want) {
        CoxeterWords x = Slots.of(word);
        Check.due("shorten " + word, x.shorten(0), want.length());
        Check.due("shortened " + word, Slots.word(x, 0), want);
        Check.due("shorten again " + word, x.shorten(0), want.length());
        Check.due("shortened again " + word, Slots.word(x, 0), want);
    }

    private static void turn() {
        turned("", "");
        turned("3", "3");
        turned("01", "10");
        turned("0012", "2100");
        turned("00123", "32100");
        turned(FULL_WORD, "321032103210321032103210");
        CoxeterWords x = Slots.of("01", "12", "23");
        Check.due("turn", x.turn(2), 2);
        Check.due("slots", Slots.all(x), "01/12/32");
    }

    private static void turned(String word, String want) {
        CoxeterWords x = Slots.of("", word);
        Check.due("turn " + word, x.turn(1), want.length());
        Check.due("turned " + word, Slots.word(x, 1), want);
    }

    private static void size() {
        CoxeterWords x = Slots.of("00", FULL_WORD, "");
        Check.due("size", x.size(0), 2);
        Check.due("size full", x.size(1), 24);
        Check.due("size empty", x.size(2), 0);
    }

    private static void letter() {
        CoxeterWords x = Slots.of("3", FULL_WORD, "12");
        Check.due("letter", x.letter(1, 0), 0);
        Check.due("letter", x.letter(1, 23), 3);
        Check.due("letter beyond full", x.letter(1, 24), NONE);
        Check.due("letter beyond", x.letter(0, 1), NONE);
        Check.due("letter", x.letter(2, 1), 2);
        Check.due("letter beyond", x.letter(2, 2), NONE);
        for (int i : new int[] {-1, -24, 25, 1 << 30, Integer.MIN_VALUE, Integer.MAX_VALUE}) {
            Check.due("letter " + i, x.letter(1, i), NONE);
            Check.due("letter " + i, x.letter(0, i), NONE);
            // Promise 19: s is tested first, whatever i is.
            Check.due("letter of no slot", x.letter(3, i), BAD_ARG);
            Check.due("letter of no slot", x.letter(-1, i), BAD_ARG);
        }
    }

    private static void length() {
        Check.due("length", Slots.of("010").length(0), 3);
        Check.due("length", Slots.of("0101").length(0), 2);
        Check.due("length", Slots.of("020").length(0), 1);
        Check.due("length", Slots.of("0303").length(0), 0);
        Check.due("length", Slots.of("1010").length(0), 2);
        Check.due("length", Slots.of(LONGEST).length(0), 10);
        Check.due("length", Slots.of(LONGEST + LONGEST).length(0), 0);
        Check.due("length", Slots.of(LONGEST + "3").length(0), 9);
        Check.due("length", Slots.of("0123" + "0123" + "0123" + "0123" + "0123" + "0").length(0), 1);
    }

    private static void equal() {
        isEqual("", "", true);
        isEqual("", "22", true);
        isEqual("02", "20", true);
        isEqual("03", "30", true);
        isEqual("13", "31", true);
        isEqual("01", "10", false);
        isEqual("12", "21", false);
        isEqual("23", "32", false);
        isEqual("010", "101", true);
        isEqual("121", "212", true);
        isEqual("232", "323", true);
        isEqual("020", "202", false);
        isEqual("0", "1", false);
        isEqual("0123" + "0123" + "0123" + "0123" + "0123", "", true);
        CoxeterWords x = Slots.of("012");
        Check.due("equal to itself", x.equal(0, 0), true);
    }

    private static void isEqual(String one, String two, boolean want) {
        CoxeterWords x = Slots.of(one, two);
        Check.due("equal " + one + " " + two, x.equal(0, 1), want);
        Check.due("equal " + two + " " + one, x.equal(1, 0), want);
    }

    private static void endings() {
        Check.due("endings", Slots.of("0123").endings(0), 8);
        Check.due("endings", Slots.of("012").endings(0), 4);
        Check.due("endings", Slots.of("103").endings(0), 9);
        Check.due("endings", Slots.of("3010").endings(0), 11);
        Check.due("endings", Slots.of(LONGEST).endings(0), 15);
        Check.due("endings of one not short", Slots.of("011").endings(0), 1);
        Check.due("endings of full", Slots.of(FULL_WORD).endings(0),
                Reference.endings(FULL_WORD));
    }

    private static void beginnings() {
        Check.due("beginnings", Slots.of("0123").beginnings(0), 1);
        Check.due("beginnings", Slots.of("301").beginnings(0), 9);
        Check.due("beginnings", Slots.of("103").beginnings(0), 10);
        Check.due("beginnings", Slots.of(LONGEST).beginnings(0), 15);
        Check.due("beginnings of one not short", Slots.of("0012").beginnings(0), 2);
        Check.due("beginnings of full", Slots.of(FULL_WORD).beginnings(0),
                Reference.beginnings(FULL_WORD));
    }

    private static void letters() {
        Check.due("letters", Slots.of("0330").letters(0), 0);
        Check.due("letters", Slots.of("3").letters(0), 8);
        Check.due("letters", Slots.of("0103").letters(0), 11);
        Check.due("letters", Slots.of("303").letters(0), 1);
        Check.due("letters", Slots.of(LONGEST).letters(0), 15);
    }

    private static void shortWords() {
        Check.due("shortWords", Slots.of("11").shortWords(0), 1);
        Check.due("shortWords", Slots.of("01").shortWords(0), 1);
        Check.due("shortWords", Slots.of("02").shortWords(0), 2);
        Check.due("shortWords", Slots.of("232").shortWords(0), 2);
        Check.due("shortWords", Slots.of("0103").shortWords(0), 8);
        Check.due("shortWords", Slots.of("010210").shortWords(0), 16);
        Check.due("shortWords", Slots.of(LONGEST).shortWords(0), 768);
    }

    private static void lies() {
        Check.due("lies in itself", Slots.of("31").lies(0, 0), true);
        doesLie("", "", true, true);
        doesLie("", "0", true, false);
        doesLie("00", "0", true, false);
        doesLie("0", "1", false, false);
        doesLie("01", "10", false, false);
        doesLie("02", "012", true, false);
        doesLie("20", "012", true, false);
        doesLie("10", "012", false, false);
        doesLie("21", "121", true, false);
        // The letters of a word that isn't short do not count, only those of its short words.
        doesLie("2", "0220", false, true);
        doesLie("1", "0110", false, true);
        doesLie("101", "010", true, true);
        doesLie("0123210", LONGEST, true, false);
    }

    private static void doesLie(String one, String two, boolean want, boolean back) {
        CoxeterWords x = Slots.of("", one, two);
        Check.due("lies " + one + " in " + two, x.lies(1, 2), want);
        Check.due("lies " + two + " in " + one, x.lies(2, 1), back);
    }

    private static void between() {
        Check.due("between", Slots.of("1").between(0, 0), 1);
        Check.due("between", Slots.of("", "01").between(0, 1), 4);
        Check.due("between", Slots.of("", "010").between(0, 1), 6);
        Check.due("between", Slots.of("0", "010").between(0, 1), 4);
        Check.due("between", Slots.of("010", "0").between(0, 1), 0);
        Check.due("between", Slots.of("01", "10").between(0, 1), 0);
        Check.due("between", Slots.of("202", "0012").between(0, 1), 0);
        Check.due("between", Slots.of("", "", LONGEST).between(1, 2), 120);
        Check.due("between", Slots.of("", "", LONGEST).between(2, 2), 1);
        Check.due("between", Slots.of("", "0123").between(0, 1), 16);
    }

    private static void order() {
        Check.due("order", Slots.of("3").order(0), 2);
        Check.due("order", Slots.of("33").order(0), 1);
        Check.due("order", Slots.of("02").order(0), 2);
        Check.due("order", Slots.of("01").order(0), 3);
        Check.due("order", Slots.of("012").order(0), 4);
        Check.due("order", Slots.of("0123").order(0), 5);
        Check.due("order", Slots.of("013").order(0), 6);
        Check.due("order", Slots.of(LONGEST).order(0), 2);
        Check.due("order of full", Slots.of(FULL_WORD).order(0), 5);
    }

    private static void alike() {
        areAlike("", "", true);
        areAlike("", "00", true);
        areAlike("", "0", false);
        areAlike("0", "3", true);
        areAlike("0", "01210", true);
        areAlike("01", "10", true);
        areAlike("01", "32", true);
        areAlike("01", "02", false);
        areAlike("02", "13", true);
        areAlike("012", "123", true);
        areAlike("012", "013", false);
        areAlike("013", "023", true);
        areAlike("0123", "3210", true);
        areAlike("0", "02", false);
        Check.due("alike itself", Slots.of("0120").alike(0, 0), true);
    }

    private static void areAlike(String one, String two, boolean want) {
        CoxeterWords x = Slots.of("", one, two);
        Check.due("alike " + one + " " + two, x.alike(1, 2), want);
        Check.due("alike " + two + " " + one, x.alike(2, 1), want);
    }

    private static void objectsAreApart() {
        CoxeterWords x = Slots.of("01");
        CoxeterWords y = Slots.of("", "3");
        Check.due("first object", Slots.all(x), "01//");
        Check.due("second object", Slots.all(y), "/3/");
    }
}
