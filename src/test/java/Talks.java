/** Short ways to make talks for the tests; each makes sure that what it builds is taken. */
final class Talks {
    static final int NONE = TalkKeeper.NONE;
    static final int BAD = TalkKeeper.BAD;
    static final int STATE = TalkKeeper.STATE;
    static final int FULL = TalkKeeper.FULL;

    /** Edges and wild numbers for arguments. */
    static final int[] WILD = {Integer.MIN_VALUE, -64, -5, -4, -3, -2, -1, 64, 65, 100, 1 << 20, Integer.MAX_VALUE};

    private Talks() {
    }

    /** A form more with plain places of these sizes. */
    static int form(TalkKeeper x, int... sizes) {
        int f = x.form();
        Due.isTrue("form() is taken", f >= 0);
        for (int p = 0; p < sizes.length; p++) {
            Due.is("place(" + f + ", 0, " + sizes[p] + ")", p, x.place(f, 0, sizes[p]));
        }
        return f;
    }

    /** Value v of place p is said by word 10 * p + v + base. */
    static void words(TalkKeeper x, int f, int base, int... sizes) {
        for (int p = 0; p < sizes.length; p++) {
            for (int v = 0; v < sizes[p]; v++) {
                int word = base + 10 * p + v;
                Due.is("word(" + f + ", " + p + ", " + v + ", " + word + ")", 0, x.word(f, p, v, word));
            }
        }
    }

    /** A row out of items: 0 .. 63 a word, 100 + p a place, 200 a star. */
    static int row(TalkKeeper x, int f, int cost, int act, int... items) {
        for (int item : items) {
            int got = item < 100 ? x.item(0, item) : item < 200 ? x.item(1, item - 100) : x.item(2, 0);
            Due.isTrue("item " + item + " is taken", got > 0);
        }
        int number = x.count(7);
        Due.is("row(" + f + ", " + cost + ", " + act + ")", number, x.row(f, cost, act));
        return number;
    }

    static int hear(TalkKeeper x, int... words) {
        for (int i = 0; i < words.length; i++) {
            Due.is("say(" + words[i] + ")", i + 1, x.say(words[i]));
        }
        return x.hear();
    }

    static void place(TalkKeeper x, String when, int f, int p, int set, int sure) {
        Due.is(when + ": set of place " + p, set, x.about(f, p, 0));
        Due.is(when + ": sure of place " + p, sure, x.about(f, p, 1));
    }

    static void line(TalkKeeper x, String when, int cost, int heard, int passed, int readings, int broken) {
        Due.is(when + ": heard(0)", cost, x.heard(0));
        Due.is(when + ": heard(1)", heard, x.heard(1));
        Due.is(when + ": heard(2)", passed, x.heard(2));
        Due.is(when + ": heard(3)", readings, x.heard(3));
        Due.is(when + ": heard(4)", broken, x.heard(4));
    }
}
