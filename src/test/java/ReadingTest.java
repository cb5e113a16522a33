/** Promises 12, 13 and 19: say, hear, heard; readings, doubts, bars, and lines that are not heard. */
final class ReadingTest {
    private static final int NONE = Talks.NONE, STATE = Talks.STATE, FULL = Talks.FULL;

    public static void main(String[] args) {
        say();
        hearRefusals();
        notHeard();
        leastCost();
        fitting();
        lastItemCounts();
        doubts();
        doubtKeepsWhatWas();
        sureMayTurnToDoubt();
        passedOver();
        manyReadings();
        bars();
        barsPlaceByPlace();
        barOverWorked();
        firstBrokenBar();
        lateWords();
        formsApart();
        handed();
        heardRefusals();
        Due.end();
    }

    private static void say() {
        TalkKeeper x = new TalkKeeper();
        for (int wild : Talks.WILD) {
            Due.is("say(" + wild + ")", NONE, x.say(wild));
        }
        int[] words = {0, 63, 5, 5, 1, 2, 3, 4};
        for (int i = 0; i < 8; i++) {
            Due.is("say(" + words[i] + ")", i + 1, x.say(words[i]));
        }
        Due.is("a ninth", FULL, x.say(5));
        Due.is("NONE goes ahead of FULL", NONE, x.say(64));
        Due.is("eight wait", 8, x.count(4));
        Talks.form(x);
        x.open(0);
        Due.is("they wait still", 8, x.count(4));
        Due.is("all passed over", 148, x.hear());
        Due.is("none waits", 0, x.count(4));
        Talks.line(x, "eight passed over", 48, 0, 8, 1, NONE);
    }

    private static void hearRefusals() {
        TalkKeeper x = new TalkKeeper();
        Due.is("nothing at all", STATE, x.hear());
        x.say(1);
        Due.is("no form in the talk", STATE, x.hear());
        Due.is("the word waits still", 1, x.count(4));
        Talks.form(x, 2);
        x.open(0);
        Due.is("taken", 106, x.hear());
        Due.is("no word waits", STATE, x.hear());
        Talks.line(x, "a refusal changes nothing", 6, 0, 1, 1, NONE);
    }

    private static void notHeard() {
        TalkKeeper x = new TalkKeeper();
        Talks.form(x, 2);
        Talks.words(x, 0, 0, 2);
        Talks.row(x, 0, 7, 0, 100);
        Talks.row(x, 0, 6, 0, 20, 100);
        x.open(0);
        Due.is("passing over is cheaper than the row", 106, Talks.hear(x, 1));
        Talks.line(x, "passed over", 6, 0, 1, 1, NONE);
        Talks.place(x, "not heard", 0, 0, 0, 0);
        Due.is("nothing to take back", 0, x.count(3));
        Due.is("a longer row is cheaper", 6, Talks.hear(x, 20, 1));
        Talks.place(x, "heard", 0, 0, 2, 1);
    }

    private static void leastCost() {
        TalkKeeper x = new TalkKeeper();
        Talks.form(x, 3);
        Talks.words(x, 0, 0, 3);
        Talks.row(x, 0, 6, 0, 100);
        x.open(0);
        Due.is("as dear as passing over", 6, Talks.hear(x, 2));
        Talks.line(x, "a tie with passing over", 6, 1, 1, 2, NONE);
        Talks.place(x, "filled in one of two", 0, 0, 4, 0);
        Due.is("two words", 12, Talks.hear(x, 0, 1));
        Talks.line(x, "two ties", 12, 1, 2, 4, NONE);
        Talks.place(x, "both words and what it had", 0, 0, 7, 0);
        Talks.row(x, 0, 5, 0, 100);
        Due.is("now cheaper", 5, Talks.hear(x, 0));
        Talks.line(x, "one", 5, 1, 0, 1, NONE);
        Talks.place(x, "sure", 0, 0, 1, 1);
        Talks.row(x, 0, 9, 0, 100, 100);
        Due.is("one row for two words", 9, Talks.hear(x, 1, 2));
        Talks.place(x, "the last one", 0, 0, 4, 1);
        Due.is("nine and five", 14, Talks.hear(x, 1, 2, 0));
        Talks.line(x, "two cuts", 14, 1, 0, 2, NONE);
        Talks.place(x, "both cuts end alike", 0, 0, 1, 1);
    }

    private static void fitting() {
        TalkKeeper x = new TalkKeeper();
        Talks.form(x, 2, 2);
        Talks.words(x, 0, 0, 2, 2);
        Talks.row(x, 0, 2, 0, 100, 30, 200, 101);
        x.open(0);
        Due.is("all four fit", 2, Talks.hear(x, 1, 30, 63, 10));
        Talks.place(x, "four items", 0, 0, 2, 1);
        Talks.place(x, "four items", 0, 1, 1, 1);
        Due.is("a wrong word", 124, Talks.hear(x, 1, 31, 63, 10));
        Due.is("a word of another place", 124, Talks.hear(x, 10, 30, 63, 10));
        Due.is("a word that says nothing", 124, Talks.hear(x, 1, 30, 63, 40));
        Due.is("too short", 118, Talks.hear(x, 1, 30, 63));
        Due.is("in the middle", 14, Talks.hear(x, 0, 1, 30, 0, 11, 0));
        Talks.line(x, "in the middle", 14, 1, 2, 1, NONE);
        Talks.place(x, "a star fills nothing", 0, 0, 2, 1);
        Talks.place(x, "in the middle", 0, 1, 2, 1);
        Talks.row(x, 0, 1, 0, 0);
        Due.is("a word as such", 1, Talks.hear(x, 0));
        Talks.place(x, "a word as such fills nothing", 0, 0, 2, 1);
    }

    private static void lastItemCounts() {
        TalkKeeper x = new TalkKeeper();
        Talks.form(x, 4, 2);
        Talks.words(x, 0, 0, 4, 2);
        Talks.row(x, 0, 1, 0, 100);
        Talks.row(x, 0, 1, 0, 100, 200, 100);
        Talks.row(x, 0, 2, 0, 40, 101);
        x.open(0);
        Due.is("within a row", 1, Talks.hear(x, 2, 50, 3));
        Talks.place(x, "within a row", 0, 0, 8, 1);
        Due.is("over pieces", 2, Talks.hear(x, 3, 2));
        Talks.line(x, "over pieces", 2, 1, 0, 1, NONE);
        Talks.place(x, "over pieces", 0, 0, 4, 1);
        Due.is("one of another place behind it", 4, Talks.hear(x, 3, 1, 40, 11));
        Talks.place(x, "another place behind it", 0, 0, 2, 1);
        Talks.place(x, "another place", 0, 1, 2, 1);
    }

    private static void doubts() {
        TalkKeeper x = new TalkKeeper();
        Talks.form(x, 4, 3);
        Talks.words(x, 0, 0, 4, 3);
        Talks.row(x, 0, 3, 0, 100, 200);
        Talks.row(x, 0, 3, 0, 200, 100);
        Talks.row(x, 0, 3, 0, 200, 101);
        Talks.row(x, 0, 1, 0, 100);
        x.open(0);
        Due.is("sure ahead", 1, Talks.hear(x, 3));
        Due.is("cheaper by two", 2, Talks.hear(x, 0, 1));
        Talks.place(x, "two pieces", 0, 0, 2, 1);
        x = new TalkKeeper();
        Talks.form(x, 4, 3);
        Talks.words(x, 0, 0, 4, 3);
        Talks.row(x, 0, 3, 0, 100, 200);
        Talks.row(x, 0, 3, 0, 200, 100);
        Talks.row(x, 0, 3, 0, 200, 101);
        x.open(0);
        Due.is("two ways", 3, Talks.hear(x, 0, 2));
        Talks.line(x, "two ways", 3, 1, 0, 2, NONE);
        Talks.place(x, "all fill it, with two values", 0, 0, 5, 0);
        Talks.place(x, "none fills it", 0, 1, 0, 0);
        Due.is("what it had goes, as all fill it", 3, Talks.hear(x, 1, 3));
        Talks.place(x, "all fill it anew", 0, 0, 10, 0);
        Due.is("one value in two ways", 3, Talks.hear(x, 2, 2));
        Talks.line(x, "one value in two ways", 3, 1, 0, 2, NONE);
        Talks.place(x, "all fill it with one", 0, 0, 4, 1);
        Due.is("of two places", 3, Talks.hear(x, 1, 12));
        Talks.line(x, "of two places", 3, 1, 0, 2, NONE);
        Talks.place(x, "one of two fills it", 0, 0, 6, 0);
        Talks.place(x, "one of two fills it", 0, 1, 4, 0);
    }

    private static void doubtKeepsWhatWas() {
        TalkKeeper x = new TalkKeeper();
        Talks.form(x, 4, 2);
        Talks.words(x, 0, 0, 4, 2);
        Talks.row(x, 0, 2, 0, 100);
        Talks.row(x, 0, 3, 0, 40, 100);
        Talks.row(x, 0, 3, 0, 40, 200);
        x.open(0);
        Talks.hear(x, 0);
        Due.is("one fills, one does not", 3, Talks.hear(x, 40, 3));
        Talks.line(x, "one fills, one does not", 3, 1, 0, 2, NONE);
        Talks.place(x, "with what it had", 0, 0, 9, 0);
        Due.is("again", 3, Talks.hear(x, 40, 1));
        Talks.place(x, "with the whole set it had", 0, 0, 11, 0);
    }

    private static void sureMayTurnToDoubt() {
        TalkKeeper x = new TalkKeeper();
        Talks.form(x, 4);
        Talks.words(x, 0, 0, 4);
        Talks.row(x, 0, 6, 0, 100);
        Talks.row(x, 0, 1, 0, 40, 100);
        x.open(0);
        Due.is("sure", 1, Talks.hear(x, 40, 2));
        Talks.place(x, "sure", 0, 0, 4, 1);
        Due.is("the same value, half", 6, Talks.hear(x, 2));
        Talks.place(x, "not sure, also with one", 0, 0, 4, 0);
        Due.is("sure again", 1, Talks.hear(x, 40, 1));
        Talks.place(x, "sure again", 0, 0, 2, 1);
    }

    private static void passedOver() {
        TalkKeeper x = new TalkKeeper();
        Talks.form(x, 2);
        Talks.words(x, 0, 0, 2);
        Talks.row(x, 0, 7, 0, 100, 30);
        Talks.row(x, 0, 1, 0, 31);
        Talks.row(x, 0, 1, 0, 30);
        x.open(0);
        Due.is("a row of two, or a word passed over", 7, Talks.hear(x, 1, 30));
        Talks.line(x, "the one that passes over most", 7, 1, 1, 2, NONE);
        Talks.place(x, "in doubt", 0, 0, 2, 0);
        Due.is("with two more", 19, Talks.hear(x, 50, 1, 30, 51));
        Talks.line(x, "with two more", 19, 1, 3, 2, NONE);
    }

    private static void manyReadings() {
        TalkKeeper x = new TalkKeeper();
        Talks.form(x, 2);
        for (int i = 0; i < 10; i++) {
            Talks.row(x, 0, 2, 0, 200);
        }
        x.open(0);
        int ways = 1;
        for (int length = 1; length <= 8; length++) {
            for (int i = 0; i < length; i++) {
                x.say(i);
            }
            ways = Math.min(1000000, ways * 10);
            Due.is("ten ways a word, " + length, 2 * length, x.hear());
            Due.is("heard(3), " + length, ways, x.heard(3));
        }
        for (int i = 0; i < 10; i++) {
            Talks.row(x, 0, 2, 0, 200);
        }
        Due.is("twenty ways a word", 16, Talks.hear(x, 0, 0, 0, 0, 0, 0, 0, 0));
        Due.is("so many or more", 1000000, x.heard(3));
        Due.is("twenty ways a word", 8, Talks.hear(x, 0, 0, 0, 0));
        Due.is("just under", 160000, x.heard(3));
    }

    private static void bars() {
        TalkKeeper x = new TalkKeeper();
        Talks.form(x, 3, 3);
        Due.is("need", 0, x.need(0, 0, 2, 1));
        Due.is("bar", 1, x.bar(0, 0, 1, 1, 2));
        Talks.words(x, 0, 0, 3, 3);
        Talks.row(x, 0, 1, 0, 100);
        Talks.row(x, 0, 1, 0, 101);
        Talks.row(x, 0, 6, 0, 20, 100);
        x.open(0);
        Due.is("a", 1, Talks.hear(x, 1));
        Due.is("b while a", 1, Talks.hear(x, 12));
        Talks.line(x, "broken", 1, 1, 0, 1, 1);
        Talks.place(x, "it stays", 0, 1, 0, 0);
        Due.is("another value", 1, Talks.hear(x, 11));
        Talks.line(x, "not broken", 1, 1, 0, 1, NONE);
        Talks.place(x, "filled", 0, 1, 2, 1);
        Due.is("barred again", 1, Talks.hear(x, 12));
        Due.is("rule", 1, x.heard(4));
        Talks.place(x, "as it was ahead", 0, 1, 2, 1);
        Due.is("a line that is not heard", 106, Talks.hear(x, 50));
        Due.is("it breaks no rule", NONE, x.heard(4));
        Talks.hear(x, 0);
        Talks.hear(x, 12);
        Talks.place(x, "b first", 0, 1, 4, 1);
        Due.is("a while b", 1, Talks.hear(x, 1));
        Due.is("rule", 1, x.heard(4));
        Talks.place(x, "a stays", 0, 0, 1, 1);
    }

    private static void barsPlaceByPlace() {
        TalkKeeper x = new TalkKeeper();
        Talks.form(x, 2, 2, 2);
        x.bar(0, 0, 1, 1, 1);
        x.bar(0, 1, 0, 2, 1);
        Talks.words(x, 0, 0, 2, 2, 2);
        Talks.row(x, 0, 1, 0, 100, 101);
        Talks.row(x, 0, 1, 0, 102);
        Talks.row(x, 0, 1, 0, 101, 100);
        x.open(0);
        Talks.hear(x, 0, 11);
        Due.is("both turn", 1, Talks.hear(x, 1, 10));
        Talks.line(x, "place 0 meets what place 1 had", 1, 1, 0, 1, 0);
        Talks.place(x, "place 0 stays", 0, 0, 1, 1);
        Talks.place(x, "place 1 turns", 0, 1, 1, 1);
        Due.is("place 2", 1, Talks.hear(x, 21));
        Due.is("rule", 1, x.heard(4));
        Talks.place(x, "barred", 0, 2, 0, 0);
        Due.is("place 0 goes ahead of place 1", 1, Talks.hear(x, 11, 1));
        Due.is("rule", 0, x.heard(4));
        Talks.place(x, "place 0 was first", 0, 0, 2, 1);
        Talks.place(x, "place 1 is barred", 0, 1, 1, 1);
    }

    private static void barOverWorked() {
        TalkKeeper x = new TalkKeeper();
        Talks.form(x, 4, 4);
        x.worked(0, 3, 0, 1);
        x.worked(0, 2, 0, 0);
        x.bar(0, 2, 2, 0, 3);
        x.bar(0, 2, 1, 3, 0);
        Talks.words(x, 0, 0, 4, 4);
        Talks.row(x, 0, 1, 0, 100);
        Talks.row(x, 0, 1, 0, 101);
        x.open(0);
        Talks.hear(x, 3);
        Due.is("sum 2", 1, Talks.hear(x, 12));
        Due.is("5 modulo 3 is 2", 0, x.heard(4));
        Talks.place(x, "barred", 0, 1, 0, 0);
        Talks.place(x, "barred", 0, 2, 0, 0);
        Due.is("sum 1", 1, Talks.hear(x, 11));
        Due.is("two worked ones bar one another", 1, x.heard(4));
        Due.is("sum 0", 1, Talks.hear(x, 10));
        Due.is("nothing bars it", NONE, x.heard(4));
        Talks.place(x, "worked", 0, 2, 1, 1);
    }

    private static void firstBrokenBar() {
        TalkKeeper x = new TalkKeeper();
        Talks.form(x, 2, 2, 2);
        x.bar(0, 2, 1, 1, 0);
        x.bar(0, 2, 0, 0, 0);
        x.bar(0, 0, 0, 2, 0);
        x.bar(0, 1, 1, 2, 0);
        Talks.words(x, 0, 0, 2, 2, 2);
        Talks.row(x, 0, 1, 0, 100);
        Talks.row(x, 0, 1, 0, 101);
        Talks.row(x, 0, 1, 0, 102);
        Talks.row(x, 0, 1, 0, 101, 100);
        x.open(0);
        Talks.hear(x, 20);
        Due.is("two places are barred", 1, Talks.hear(x, 11, 0));
        Due.is("the first bar at the first place", 1, x.heard(4));
        Talks.place(x, "place 0", 0, 0, 0, 0);
        Talks.place(x, "place 1", 0, 1, 0, 0);
        Due.is("place 1 alone", 1, Talks.hear(x, 11));
        Due.is("its bar", 3, x.heard(4));
    }

    private static void lateWords() {
        TalkKeeper x = new TalkKeeper();
        Talks.form(x, 2);
        Talks.row(x, 0, 1, 0, 100);
        x.open(0);
        x.say(9);
        x.word(0, 0, 1, 9);
        Due.is("a word counts by what it says when it is heard", 1, x.hear());
        Talks.place(x, "late word", 0, 0, 2, 1);
    }

    private static void formsApart() {
        TalkKeeper x = new TalkKeeper();
        Talks.form(x, 2);
        Talks.form(x, 3);
        x.word(0, 0, 1, 9);
        x.word(1, 0, 2, 9);
        Talks.row(x, 0, 1, 0, 100);
        Talks.row(x, 1, 2, 0, 100);
        x.open(0);
        x.open(1);
        Due.is("the uppermost form's row", 2, Talks.hear(x, 9));
        Talks.place(x, "form 1", 1, 0, 4, 1);
        Talks.place(x, "form 0", 0, 0, 0, 0);
        x.close();
        Due.is("form 0 is spoken of", 1, Talks.hear(x, 9));
        Talks.place(x, "form 0", 0, 0, 2, 1);
        Talks.place(x, "form 1", 1, 0, 4, 1);
    }

    private static void handed() {
        TalkKeeper x = new TalkKeeper();
        Talks.form(x, 2);
        Talks.form(x, 2);
        Talks.row(x, 0, 1, 0, 5);
        x.open(0);
        Talks.hear(x, 5);
        Talks.hear(x, 6);
        Talks.hear(x, 6);
        Due.is("two", 0, x.count(2));
        Talks.hear(x, 5);
        Talks.hear(x, 6);
        Talks.hear(x, 6);
        Due.is("two behind one that was heard", 0, x.count(2));
        x.back();
        x.act();
        x.open(1);
        x.close();
        Talks.hear(x, 6);
        Due.is("three", 1, x.count(2));
        Talks.hear(x, 6);
        Due.is("four", 1, x.count(2));
        x.open(1);
        x.close();
        Due.is("still", 1, x.count(2));
        Talks.hear(x, 5);
        Due.is("heard again", 0, x.count(2));
        Talks.hear(x, 6);
        Due.is("one", 0, x.count(2));
        x.back();
        Due.is("one", 0, x.count(2));
    }

    private static void heardRefusals() {
        TalkKeeper x = new TalkKeeper();
        for (int wild : Talks.WILD) {
            Due.is("heard(" + wild + ")", NONE, x.heard(wild));
        }
        Due.is("heard(5)", NONE, x.heard(5));
        Talks.form(x, 2);
        Talks.row(x, 0, 2, 0, 5);
        x.open(0);
        Talks.hear(x, 5, 6);
        Talks.line(x, "heard", 8, 1, 1, 1, NONE);
        x.back();
        x.close();
        Talks.line(x, "it is the latest line still", 8, 1, 1, 1, NONE);
    }
}
