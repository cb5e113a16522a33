/** The boundary cases of words, items, rows and lines that wait: promises 7 to 9, 12 and 18. */
final class BoundaryWordsTest {
    private static final int NONE = Talks.NONE, BAD = Talks.BAD, STATE = Talks.STATE, FULL = Talks.FULL;

    public static void main(String[] args) {
        terms();
        promises();
        Sentence.end();
    }

    private static void terms() {
        Sentence.holds("WORDS are 0 .. 63", BoundaryWordsTest::wordsEnd);
        Sentence.holds("A VALUE of a PLACE may be SAID by a WORD", BoundaryWordsTest::manyWordsOrNone);
        Sentence.holds("in one FORM no WORD says two", BoundaryWordsTest::noWordSaysTwo);
        Sentence.holds("ROWS are numbered from 0 on, 20 at most", BoundaryWordsTest::rowsAreTwenty);
        Sentence.holds("ROWS: each of a FORM", BoundaryWordsTest::rowOfAForm);
        Sentence.holds("with a COST 1 .. 9", BoundaryWordsTest::costs);
        Sentence.holds("1 to 4 ITEMS", BoundaryWordsTest::itemsOfARow);
        Sentence.holds("any WORD that says a VALUE of a PLACE", BoundaryWordsTest::placeItem);
        Sentence.holds("(not WORKED)", BoundaryWordsTest::noWorkedItem);
        Sentence.holds("a STAR: any WORD at all", BoundaryWordsTest::starItem);
        Sentence.holds("Its ACT: 0 FILL, 1 YES, 2 NO", BoundaryWordsTest::acts);
        Sentence.holds("A LINE is a row of 1 to 8 WORDS", BoundaryWordsTest::lineLengths);
    }

    private static void promises() {
        Sentence.holds("7: NONE", BoundaryWordsTest::wordNone);
        Sentence.holds("7: BAD: the PLACE is WORKED", BoundaryWordsTest::wordBad);
        Sentence.holds("7: STATE: it says one in this FORM", BoundaryWordsTest::wordState);
        Sentence.holds("8: how many wait", BoundaryWordsTest::itemsWait);
        Sentence.holds("8: BAD: what", BoundaryWordsTest::itemBadWhat);
        Sentence.holds("8: BAD: k (0 .. 63, 0 .. 4, 0)", BoundaryWordsTest::itemBadKey);
        Sentence.holds("8: FULL: 4", BoundaryWordsTest::itemFull);
        Sentence.holds("9: The ITEMS that wait, which do so no more", BoundaryWordsTest::itemsWaitNoMore);
        Sentence.holds("9: NONE", BoundaryWordsTest::rowNone);
        Sentence.holds("9: NONE (a PLACE that the FORM has not, too)", BoundaryWordsTest::rowLacksPlace);
        Sentence.holds("9: BAD: cost", BoundaryWordsTest::rowBadCost);
        Sentence.holds("9: BAD: act not 0 .. 2", BoundaryWordsTest::rowBadAct);
        Sentence.holds("9: BAD: a WORKED PLACE", BoundaryWordsTest::rowBadWorked);
        Sentence.holds("9: BAD: a YES or NO with a PLACE", BoundaryWordsTest::rowBadAnswer);
        Sentence.holds("9: STATE: none waits", BoundaryWordsTest::rowState);
        Sentence.holds("9: FULL", BoundaryWordsTest::rowFull);
        Sentence.holds("12: how many wait", BoundaryWordsTest::wordsWait);
        Sentence.holds("12: NONE", BoundaryWordsTest::sayNone);
        Sentence.holds("12: FULL: 8", BoundaryWordsTest::sayFull);
        Sentence.holds("18: The least WORD that says a VALUE", BoundaryWordsTest::leastWord);
        Sentence.holds("18: NONE", BoundaryWordsTest::saidNone);
        Sentence.holds("18: NONE: none does, too", BoundaryWordsTest::saidByNone);
    }

    private static TalkKeeper with(int... sizes) {
        TalkKeeper x = new TalkKeeper();
        Talks.form(x, sizes);
        return x;
    }

    // ---- terms

    private static void wordsEnd() {
        TalkKeeper x = with(2);
        Due.is("word -1", NONE, x.word(0, 0, 0, -1));
        Due.is("word 64", NONE, x.word(0, 0, 0, 64));
        Due.is("word 0", 0, x.word(0, 0, 0, 0));
        Due.is("word 63", 0, x.word(0, 0, 1, 63));
        Due.is("say -1", NONE, x.say(-1));
        Due.is("say 64", NONE, x.say(64));
        Due.is("say 0", 1, x.say(0));
        Due.is("say 63", 2, x.say(63));
        Due.is("item -1", BAD, x.item(0, -1));
        Due.is("item 64", BAD, x.item(0, 64));
        Due.is("item 0", 1, x.item(0, 0));
        Due.is("item 63", 2, x.item(0, 63));
        Due.is("a row of the ends", 0, x.row(0, 3, 0));
        x.open(0);
        Due.is("it reads them", 3, x.hear());
        Talks.row(x, 0, 1, 0, 100);
        Due.is("what 0 says", 1, Talks.hear(x, 0));
        Talks.place(x, "what 0 says", 0, 0, 1, 1);
        Due.is("what 63 says", 1, Talks.hear(x, 63));
        Talks.place(x, "what 63 says", 0, 0, 2, 1);
    }

    private static void manyWordsOrNone() {
        TalkKeeper x = with(2);
        Talks.row(x, 0, 1, 0, 100);
        x.open(0);
        Due.is("no word says anything", 106, Talks.hear(x, 0));
        for (int word = 63; word >= 0; word--) {
            Due.is("word " + word, 0, x.word(0, 0, 1, word));
            Due.is("the least", word, x.said(0, 0, 1));
        }
        Due.is("value 0 is said by none", NONE, x.said(0, 0, 0));
        for (int word = 0; word < 64; word++) {
            Due.is("each says it", 1, Talks.hear(x, word));
        }
        Talks.place(x, "said by all", 0, 0, 2, 1);
    }

    private static void noWordSaysTwo() {
        TalkKeeper x = with(2, 2);
        Talks.form(x, 2);
        Due.is("one", 0, x.word(0, 0, 0, 9));
        Due.is("the same value", STATE, x.word(0, 0, 0, 9));
        Due.is("another value", STATE, x.word(0, 0, 1, 9));
        Due.is("another place", STATE, x.word(0, 1, 0, 9));
        Due.is("another word", 0, x.word(0, 0, 1, 10));
        Due.is("in another FORM", 0, x.word(1, 0, 1, 9));
        Due.is("there no two", STATE, x.word(1, 0, 0, 9));
        Due.is("the first holds", 9, x.said(0, 0, 0));
        Due.is("the second does not", NONE, x.said(0, 1, 0));
    }

    private static void rowsAreTwenty() {
        TalkKeeper x = with(2);
        Talks.form(x, 2);
        for (int r = 0; r < 20; r++) {
            x.item(0, r);
            Due.is("row", r, x.row(r % 2, 1, 0));
        }
        x.item(0, 20);
        Due.is("one more", FULL, x.row(0, 1, 0));
        Due.is("one more of the other form", FULL, x.row(1, 1, 0));
        x.open(1);
        Due.is("the last one reads", 1, Talks.hear(x, 19));
        Due.is("the refused one does not", 106, Talks.hear(x, 20));
    }

    private static void rowOfAForm() {
        TalkKeeper x = with(2);
        Talks.form(x, 2);
        Talks.form(x, 2);
        for (int f = 0; f < 3; f++) {
            Talks.row(x, f, 1 + f, 0, 5);
        }
        for (int f = 0; f < 3; f++) {
            x.open(f);
            Due.is("form " + f + " reads by its own", 1 + f, Talks.hear(x, 5));
            Due.is("one reading", 1, x.heard(3));
        }
    }

    private static void costs() {
        TalkKeeper x = with(2);
        x.item(0, 1);
        x.item(0, 2);
        Due.is("0", BAD, x.row(0, 0, 0));
        Due.is("10", BAD, x.row(0, 10, 0));
        Due.is("9", 0, x.row(0, 9, 0));
        x.item(0, 3);
        Due.is("1", 1, x.row(0, 1, 0));
        x.open(0);
        Due.is("at 9", 9, Talks.hear(x, 1, 2));
        Due.is("at 1", 1, Talks.hear(x, 3));
    }

    private static void itemsOfARow() {
        TalkKeeper x = with(2);
        Due.is("none", STATE, x.row(0, 1, 0));
        x.item(0, 1);
        Due.is("one", 0, x.row(0, 1, 0));
        for (int i = 1; i <= 4; i++) {
            Due.is("item", i, x.item(0, 2));
        }
        Due.is("a fifth", FULL, x.item(0, 2));
        Due.is("four", 1, x.row(0, 1, 0));
        x.open(0);
        Due.is("one word", 1, Talks.hear(x, 1));
        Due.is("four words", 1, Talks.hear(x, 2, 2, 2, 2));
        Due.is("five words", 7, Talks.hear(x, 2, 2, 2, 2, 2));
        Due.is("three words", 118, Talks.hear(x, 2, 2, 2));
    }

    private static void placeItem() {
        TalkKeeper x = with(4, 2);
        Talks.words(x, 0, 0, 4, 2);
        Talks.row(x, 0, 1, 0, 100);
        x.open(0);
        for (int v = 0; v < 4; v++) {
            Due.is("value " + v, 1, Talks.hear(x, v));
        }
        Due.is("a word of another place", 106, Talks.hear(x, 10));
        Due.is("a word that says nothing", 106, Talks.hear(x, 4));
    }

    private static void noWorkedItem() {
        TalkKeeper x = with(2);
        x.worked(0, 2, 0, 0);
        Due.is("it may wait", 1, x.item(1, 1));
        Due.is("a row with it", BAD, x.row(0, 1, 0));
        Due.is("no row came", 0, x.count(7));
    }

    private static void starItem() {
        TalkKeeper x = with(2);
        Talks.form(x);
        x.word(0, 0, 0, 7);
        Talks.row(x, 0, 1, 0, 200);
        Talks.row(x, 1, 2, 0, 200, 200, 200, 200);
        x.open(0);
        for (int word = 0; word < 64; word++) {
            Due.is("word " + word, 1, Talks.hear(x, word));
        }
        Talks.place(x, "a STAR fills nothing", 0, 0, 0, 0);
        x.open(1);
        Due.is("four STARS", 2, Talks.hear(x, 0, 63, 7, 7));
    }

    private static void acts() {
        TalkKeeper x = with(2);
        for (int act = 0; act <= 2; act++) {
            x.item(0, act);
            Due.is("act " + act, act, x.row(0, 1, act));
        }
        x.item(0, 3);
        Due.is("act 3", BAD, x.row(0, 1, 3));
        Due.is("act -1", BAD, x.row(0, 1, -1));
        x.open(0);
        for (int act = 0; act <= 2; act++) {
            Due.is("read", 1, Talks.hear(x, act));
            Due.is("heard", 1, x.heard(1));
        }
    }

    private static void lineLengths() {
        TalkKeeper x = with(2);
        Talks.row(x, 0, 1, 0, 200);
        x.open(0);
        Due.is("no WORD", STATE, x.hear());
        for (int length = 1; length <= 8; length++) {
            Due.is(length + " words", length, Talks.hear(x, new int[length]));
        }
        for (int i = 1; i <= 8; i++) {
            x.say(1);
        }
        Due.is("a ninth", FULL, x.say(1));
        Due.is("eight are read", 8, x.hear());
        Due.is("and gone", STATE, x.hear());
    }

    // ---- promises

    private static void wordNone() {
        TalkKeeper x = new TalkKeeper();
        Due.is("no form at all", NONE, x.word(0, 0, 0, 0));
        Talks.form(x, 2, 3);
        for (int wild : Talks.WILD) {
            Due.is("form " + wild, NONE, x.word(wild, 0, 0, 0));
            Due.is("place " + wild, NONE, x.word(0, wild, 0, 0));
            Due.is("value " + wild, NONE, x.word(0, 0, wild, 0));
            Due.is("word " + wild, NONE, x.word(0, 0, 0, wild));
        }
        Due.is("form 1", NONE, x.word(1, 0, 0, 0));
        Due.is("place 2", NONE, x.word(0, 2, 0, 0));
        Due.is("value 2 of two", NONE, x.word(0, 0, 2, 0));
        Due.is("value 2 of three", 0, x.word(0, 1, 2, 0));
    }

    private static void wordBad() {
        TalkKeeper x = with(2);
        x.worked(0, 4, 0, 0);
        for (int v = 0; v < 4; v++) {
            Due.is("value " + v, BAD, x.word(0, 1, v, v));
        }
        Due.is("a SECRET one may be said", 2, x.place(0, 2, 2));
        Due.is("a SECRET one may be said", 0, x.word(0, 2, 0, 0));
    }

    private static void wordState() {
        TalkKeeper x = with(2, 2);
        x.open(0);
        Due.is("in THE TALK it may come", 0, x.word(0, 1, 1, 63));
        Due.is("it says one", STATE, x.word(0, 0, 0, 63));
        Due.is("a word beside it", 0, x.word(0, 0, 0, 62));
        x.close();
        x.open(0);
        Due.is("still", STATE, x.word(0, 0, 0, 63));
    }

    private static void itemsWait() {
        TalkKeeper x = new TalkKeeper();
        Due.is("without a form: a WORD", 1, x.item(0, 0));
        Due.is("a PLACE", 2, x.item(1, 0));
        Due.is("a STAR", 3, x.item(2, 0));
        Due.is("a WORD once more", 4, x.item(0, 0));
        Due.is("they wait", 4, x.count(5));
    }

    private static void itemBadWhat() {
        TalkKeeper x = new TalkKeeper();
        for (int wild : Talks.WILD) {
            Due.is("what " + wild, BAD, x.item(wild, 0));
        }
        Due.is("what 3", BAD, x.item(3, 0));
        Due.is("none waits", 0, x.count(5));
    }

    private static void itemBadKey() {
        int[] greatest = {63, 4, 0};
        for (int what = 0; what <= 2; what++) {
            TalkKeeper x = new TalkKeeper();
            for (int wild : Talks.WILD) {
                Due.is("what " + what + ", k " + wild, BAD, x.item(what, wild));
            }
            Due.is("one too great", BAD, x.item(what, greatest[what] + 1));
            Due.is("none waits", 0, x.count(5));
            Due.is("the greatest", 1, x.item(what, greatest[what]));
            Due.is("the least", 2, x.item(what, 0));
        }
    }

    private static void itemFull() {
        TalkKeeper x = with(2);
        for (int i = 1; i <= 4; i++) {
            x.item(0, i);
        }
        Due.is("a fifth WORD", FULL, x.item(0, 5));
        Due.is("a fifth PLACE", FULL, x.item(1, 0));
        Due.is("a fifth STAR", FULL, x.item(2, 0));
        Due.is("four wait", 4, x.count(5));
        x.row(0, 1, 0);
        Due.is("then one may come", 1, x.item(0, 5));
    }

    private static void itemsWaitNoMore() {
        TalkKeeper x = with(2);
        x.item(0, 1);
        x.item(0, 2);
        Due.is("a row", 0, x.row(0, 1, 0));
        Due.is("none waits", 0, x.count(5));
        Due.is("no second row of them", STATE, x.row(0, 1, 0));
        x.item(0, 3);
        Due.is("the next row", 1, x.row(0, 2, 0));
        x.open(0);
        Due.is("it has the new item alone", 2, Talks.hear(x, 3));
        Due.is("the first has its two", 1, Talks.hear(x, 1, 2));
    }

    private static void rowNone() {
        TalkKeeper x = new TalkKeeper();
        x.item(0, 1);
        Due.is("no form at all", NONE, x.row(0, 1, 0));
        Talks.form(x, 2);
        for (int wild : Talks.WILD) {
            Due.is("form " + wild, NONE, x.row(wild, 1, 0));
        }
        Due.is("form 1", NONE, x.row(1, 1, 0));
        Due.is("the item waits", 1, x.count(5));
        Due.is("form 0", 0, x.row(0, 1, 0));
    }

    private static void rowLacksPlace() {
        TalkKeeper x = with(2, 2);
        Talks.form(x);
        x.item(1, 1);
        x.item(0, 9);
        Due.is("a form without places", NONE, x.row(1, 1, 0));
        x.place(1, 0, 2);
        Due.is("a form with one place", NONE, x.row(1, 1, 0));
        Due.is("they wait", 2, x.count(5));
        x.place(1, 0, 2);
        Due.is("a form with two", 0, x.row(1, 1, 0));
        x.place(0, 0, 2);
        for (int at = 0; at < 4; at++) {
            for (int i = 0; i < 4; i++) {
                x.item(i == at ? 1 : 0, i == at ? 2 : 0);
            }
            Due.is("the lacking one is item " + at, NONE, x.row(1, 1, 0));
            Due.is("the other form has it", 1 + at, x.row(0, 1, 0));
        }
    }

    private static void rowBadCost() {
        TalkKeeper x = with(2);
        x.item(0, 1);
        for (int wild : Talks.WILD) {
            Due.is("cost " + wild, BAD, x.row(0, wild, 0));
        }
        Due.is("cost 0", BAD, x.row(0, 0, 0));
        Due.is("cost 10", BAD, x.row(0, 10, 0));
        Due.is("the item waits", 1, x.count(5));
    }

    private static void rowBadAct() {
        TalkKeeper x = with(2);
        x.item(0, 1);
        for (int wild : Talks.WILD) {
            Due.is("act " + wild, BAD, x.row(0, 1, wild));
        }
        Due.is("act 3", BAD, x.row(0, 1, 3));
        Due.is("act 2", 0, x.row(0, 1, 2));
    }

    private static void rowBadWorked() {
        for (int at = 0; at < 4; at++) {
            TalkKeeper x = with(2);
            x.worked(0, 2, 0, 0);
            for (int i = 0; i < 4; i++) {
                x.item(1, i == at ? 1 : 0);
            }
            Due.is("the WORKED one is item " + at, BAD, x.row(0, 1, 0));
            Due.is("they wait", 4, x.count(5));
        }
    }

    private static void rowBadAnswer() {
        for (int at = 0; at < 4; at++) {
            TalkKeeper x = with(2);
            for (int i = 0; i < 4; i++) {
                x.item(i == at ? 1 : 2, 0);
            }
            Due.is("YES, the PLACE is item " + at, BAD, x.row(0, 1, 1));
            Due.is("NO", BAD, x.row(0, 1, 2));
            Due.is("FILL", 0, x.row(0, 1, 0));
        }
        TalkKeeper x = with(2);
        x.item(0, 0);
        x.item(2, 0);
        Due.is("YES with a WORD and a STAR", 0, x.row(0, 1, 1));
        x.item(2, 0);
        Due.is("NO with a STAR", 1, x.row(0, 1, 2));
    }

    private static void rowState() {
        TalkKeeper x = with(2);
        Due.is("none waits", STATE, x.row(0, 1, 0));
        x.item(0, 64);
        Due.is("a refused item waits not", STATE, x.row(0, 1, 0));
        x.open(0);
        x.item(0, 5);
        Due.is("in THE TALK a row may come", 0, x.row(0, 1, 0));
        Due.is("none waits", STATE, x.row(0, 1, 0));
    }

    private static void rowFull() {
        TalkKeeper x = with(2);
        for (int r = 0; r < 20; r++) {
            Talks.row(x, 0, 9, 0, 1, 2, 3, 4);
        }
        for (int i = 1; i <= 4; i++) {
            Due.is("items may wait", i, x.item(0, 10 + i));
        }
        for (int act = 0; act <= 2; act++) {
            Due.is("a row more, act " + act, FULL, x.row(0, 1, act));
        }
        Due.is("they wait", 4, x.count(5));
        Due.is("twenty", 20, x.count(7));
        x.open(0);
        Due.is("all twenty read", 9, Talks.hear(x, 1, 2, 3, 4));
        Due.is("all twenty read", 20, x.heard(3));
    }

    private static void wordsWait() {
        TalkKeeper x = new TalkKeeper();
        Due.is("without a form", 1, x.say(63));
        Due.is("the same once more", 2, x.say(63));
        Talks.form(x);
        x.open(0);
        Due.is("behind open()", 3, x.say(0));
        x.close();
        Due.is("behind close()", 4, x.say(0));
        Due.is("they wait", 4, x.count(4));
        x.open(0);
        Due.is("all are taken", 124, x.hear());
        Due.is("anew", 1, x.say(0));
    }

    private static void sayNone() {
        TalkKeeper x = new TalkKeeper();
        for (int wild : Talks.WILD) {
            Due.is("say(" + wild + ")", NONE, x.say(wild));
        }
        Due.is("none waits", 0, x.count(4));
    }

    private static void sayFull() {
        TalkKeeper x = with(2);
        Talks.row(x, 0, 1, 0, 5);
        for (int i = 1; i <= 8; i++) {
            Due.is("word", i, x.say(6));
        }
        Due.is("a ninth", FULL, x.say(5));
        Due.is("once more", FULL, x.say(6));
        x.open(0);
        Due.is("the ninth is not in it", 148, x.hear());
        Due.is("then one may come", 1, x.say(5));
    }

    private static void leastWord() {
        TalkKeeper x = with(2);
        x.word(0, 0, 1, 63);
        Due.is("63", 63, x.said(0, 0, 1));
        x.word(0, 0, 1, 31);
        x.word(0, 0, 1, 40);
        Due.is("31", 31, x.said(0, 0, 1));
        x.word(0, 0, 0, 0);
        Due.is("another value has a lesser one", 31, x.said(0, 0, 1));
        Due.is("0", 0, x.said(0, 0, 0));
    }

    private static void saidNone() {
        TalkKeeper x = new TalkKeeper();
        Due.is("no form at all", NONE, x.said(0, 0, 0));
        Talks.form(x, 2);
        x.word(0, 0, 0, 0);
        x.word(0, 0, 1, 1);
        for (int wild : Talks.WILD) {
            Due.is("form " + wild, NONE, x.said(wild, 0, 0));
            Due.is("place " + wild, NONE, x.said(0, wild, 0));
            Due.is("value " + wild, NONE, x.said(0, 0, wild));
        }
        Due.is("form 1", NONE, x.said(1, 0, 0));
        Due.is("place 1", NONE, x.said(0, 1, 0));
        Due.is("value 2", NONE, x.said(0, 0, 2));
    }

    private static void saidByNone() {
        TalkKeeper x = with(2, 2);
        x.worked(0, 2, 0, 1);
        x.word(0, 0, 1, 5);
        Due.is("another value is said", NONE, x.said(0, 0, 0));
        Due.is("another place is said", NONE, x.said(0, 1, 1));
        Due.is("a WORKED one is never said", NONE, x.said(0, 2, 1));
    }
}
