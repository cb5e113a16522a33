/** Promises 10, 11 and 14 to 16: open, close, back, act, worst; YES and NO. */
final class TalkTest {
    private static final int NONE = Talks.NONE, STATE = Talks.STATE;

    public static void main(String[] args) {
        open();
        close();
        closedPlacesStay();
        back();
        backKeepsTen();
        backOfAllForms();
        backOfTheLastForm();
        backOfWorked();
        act();
        actOfSecret();
        actAndNeeds();
        yesAndNo();
        yesIsBarred();
        answersWithoutQuestion();
        answersAsOneRow();
        worst();
        worstChoosesOrder();
        worstOfNothing();
        worstIsHopeless();
        worstCountsBars();
        Due.end();
    }

    private static void open() {
        TalkKeeper x = new TalkKeeper();
        Due.is("no form", NONE, x.open(0));
        Talks.form(x, 2);
        Talks.form(x, 2);
        Talks.form(x);
        for (int wild : Talks.WILD) {
            Due.is("open(" + wild + ")", NONE, x.open(wild));
        }
        Due.is("open(3)", NONE, x.open(3));
        Due.is("open(1)", 1, x.open(1));
        Due.is("it is in it", STATE, x.open(1));
        Due.is("open(0)", 2, x.open(0));
        Due.is("below", STATE, x.open(1));
        Due.is("open(2)", 3, x.open(2));
        Due.is("how many", 3, x.count(0));
        Due.is("uppermost", 2, x.count(1));
        Due.is("all are in it", STATE, x.open(0));
    }

    private static void close() {
        TalkKeeper x = new TalkKeeper();
        Due.is("empty", STATE, x.close());
        Talks.form(x, 2);
        Talks.form(x, 2);
        x.open(1);
        x.open(0);
        Due.is("uppermost", 0, x.close());
        Due.is("then", 1, x.count(1));
        Due.is("how many", 1, x.count(0));
        Due.is("the last", 1, x.close());
        Due.is("none is left", NONE, x.count(1));
        Due.is("empty", STATE, x.close());
        Due.is("act()", STATE, x.act());
        Due.is("worst()", STATE, x.worst());
        Due.is("opened again", 1, x.open(0));
    }

    private static void closedPlacesStay() {
        TalkKeeper x = new TalkKeeper();
        Talks.form(x, 2, 2);
        Talks.form(x, 2);
        Talks.words(x, 0, 0, 2, 2);
        Talks.row(x, 0, 1, 0, 100);
        Talks.row(x, 0, 6, 0, 101);
        x.open(0);
        Talks.hear(x, 1);
        Talks.hear(x, 10);
        x.open(1);
        Talks.place(x, "below", 0, 0, 2, 1);
        x.close();
        Talks.place(x, "uppermost again", 0, 0, 2, 1);
        x.close();
        Talks.place(x, "closed", 0, 0, 2, 1);
        Talks.place(x, "closed", 0, 1, 1, 0);
        x.worked(0, 4, 0, 0);
        Talks.place(x, "a worked place more", 0, 2, 4, 1);
        Due.is("a need more", 0, x.need(0, 0, 0, 1));
        Due.is("not wanted now", 0, x.about(0, 1, 2));
        x.open(0);
        Talks.place(x, "opened again", 0, 0, 0, 0);
        Talks.place(x, "opened again", 0, 1, 0, 0);
        Talks.place(x, "opened again", 0, 2, 0, 0);
    }

    private static TalkKeeper one(int n) {
        TalkKeeper x = new TalkKeeper();
        Talks.form(x, n);
        Talks.form(x, 2);
        Talks.words(x, 0, 0, n);
        Talks.row(x, 0, 1, 0, 100);
        Talks.row(x, 0, 6, 0, 20, 100);
        x.open(0);
        return x;
    }

    private static void back() {
        TalkKeeper x = one(3);
        Due.is("none", STATE, x.back());
        Talks.hear(x, 0);
        Talks.hear(x, 1);
        Talks.hear(x, 50);
        Talks.hear(x, 2);
        Due.is("three were heard", 3, x.count(3));
        Due.is("back()", 2, x.back());
        Talks.place(x, "the second line", 0, 0, 2, 1);
        Talks.hear(x, 0);
        Due.is("three again", 3, x.count(3));
        Due.is("back()", 2, x.back());
        Talks.place(x, "the second line", 0, 0, 2, 1);
        Due.is("back()", 1, x.back());
        Talks.place(x, "the first line", 0, 0, 1, 1);
        Due.is("back()", 0, x.back());
        Talks.place(x, "ahead of all", 0, 0, 0, 0);
        Due.is("none is left", STATE, x.back());
        Talks.hear(x, 0);
        x.open(1);
        Due.is("opened since", STATE, x.back());
        Due.is("none can be", 0, x.count(3));
        x.close();
        Talks.hear(x, 1);
        Due.is("one", 1, x.count(3));
        x.open(0);
        x.open(5);
        Due.is("a refused open() changes nothing", 1, x.count(3));
        x.close();
        Due.is("closed since", STATE, x.back());
        x.close();
        Talks.place(x, "as it was", 0, 0, 2, 1);
    }

    private static void backKeepsTen() {
        TalkKeeper x = one(4);
        int[] said = new int[13];
        for (int i = 0; i < 13; i++) {
            said[i] = i * 7 / 3 % 4;
            Talks.hear(x, said[i]);
            Due.is("kept", Math.min(10, i + 1), x.count(3));
        }
        for (int i = 12; i >= 3; i--) {
            Due.is("back()", i - 3, x.back());
            Talks.place(x, "line " + (i - 1), 0, 0, 1 << said[i - 1], 1);
        }
        Due.is("ten are kept", STATE, x.back());
        for (int i = 0; i < 11; i++) {
            Talks.hear(x, i % 4);
        }
        Due.is("ten anew", 10, x.count(3));
        for (int i = 0; i < 10; i++) {
            x.back();
        }
        Talks.place(x, "ahead of the second", 0, 0, 1, 1);
    }

    private static void backOfAllForms() {
        TalkKeeper x = one(3);
        Talks.hear(x, 2);
        x.close();
        x.word(1, 0, 1, 5);
        Talks.row(x, 1, 1, 0, 100);
        x.open(1);
        Talks.hear(x, 5);
        Talks.form(x, 2);
        x.place(0, 0, 2);
        Due.is("back()", 0, x.back());
        Talks.place(x, "the line's form", 1, 0, 0, 0);
        Talks.place(x, "the closed form", 0, 0, 4, 1);
        Talks.place(x, "its new place", 0, 1, 0, 0);
        Talks.place(x, "the new form", 2, 0, 0, 0);
    }

    private static void backOfTheLastForm() {
        TalkKeeper x = one(3);
        Talks.form(x, 2, 2, 2, 2, 4);
        Talks.words(x, 2, 0, 2, 2, 2, 2, 4);
        Talks.row(x, 2, 1, 0, 104);
        x.open(2);
        for (int i = 0; i < 22; i++) {
            Talks.hear(x, 40 + i % 4);
        }
        for (int i = 21; i >= 12; i--) {
            Due.is("back()", i - 12, x.back());
            Talks.place(x, "line " + i, 2, 4, 1 << (i - 1) % 4, 1);
        }
    }

    private static void backOfWorked() {
        TalkKeeper x = one(3);
        Talks.hear(x, 2);
        x.close();
        x.word(1, 0, 1, 5);
        Talks.row(x, 1, 1, 0, 100);
        x.open(1);
        Talks.hear(x, 5);
        x.worked(0, 3, 0, 0);
        Talks.place(x, "worked", 0, 1, 2, 1);
        Due.is("back()", 0, x.back());
        Talks.place(x, "worked out of places that stay", 0, 1, 2, 1);
    }

    private static void act() {
        TalkKeeper x = new TalkKeeper();
        Due.is("no form in the talk", STATE, x.act());
        Talks.form(x);
        Talks.form(x, 2, 4, 4);
        x.open(0);
        Due.is("nothing wanted: END", 0, x.act());
        Talks.words(x, 1, 0, 2, 4, 4);
        Talks.row(x, 1, 1, 0, 100);
        Talks.row(x, 1, 6, 0, 101);
        Talks.row(x, 1, 6, 0, 102);
        Talks.row(x, 1, 1, 0, 30, 101);
        Talks.row(x, 1, 1, 0, 30, 102);
        x.open(1);
        Due.is("ASK the least", 200, x.act());
        Talks.hear(x, 1);
        Due.is("ASK the next", 210, x.act());
        Talks.hear(x, 23);
        Due.is("CONFIRM place 2", 123, x.act());
        Talks.hear(x, 13);
        Due.is("CONFIRM the least place", 113, x.act());
        Talks.hear(x, 12);
        Due.is("CONFIRM the least value", 112, x.act());
        Talks.hear(x, 30, 10);
        Due.is("CONFIRM place 2 again", 123, x.act());
        Talks.hear(x, 30, 20);
        Due.is("END", 0, x.act());
        x.close();
        Due.is("END of the form below", 0, x.act());
        x.close();
        Due.is("no form", STATE, x.act());
    }

    private static void actOfSecret() {
        TalkKeeper x = new TalkKeeper();
        Talks.form(x, 2);
        Due.is("a secret place", 1, x.place(0, 2, 3));
        Due.is("a plain one", 2, x.place(0, 0, 3));
        Talks.words(x, 0, 0, 2, 3, 3);
        Talks.row(x, 0, 1, 0, 100);
        Talks.row(x, 0, 6, 0, 101);
        Talks.row(x, 0, 6, 0, 102);
        Talks.row(x, 0, 1, 0, 30, 102);
        Talks.row(x, 0, 1, 0, 30, 101);
        Talks.row(x, 0, 1, 1, 31);
        x.open(0);
        Talks.hear(x, 11);
        Talks.place(x, "in doubt", 0, 1, 2, 0);
        Due.is("ASK place 0", 200, x.act());
        Talks.hear(x, 0);
        Due.is("ASK for the secret one", 210, x.act());
        Talks.hear(x, 31);
        Talks.place(x, "a YES to ASK", 0, 1, 2, 0);
        Talks.hear(x, 22);
        Due.is("CONFIRM the plain one", 122, x.act());
        Talks.hear(x, 31);
        Due.is("ASK for the secret one", 210, x.act());
        Talks.hear(x, 30, 10);
        Due.is("END", 0, x.act());
    }

    private static void actAndNeeds() {
        TalkKeeper x = new TalkKeeper();
        Talks.form(x, 3, 2, 2);
        x.need(0, 0, 1, 1);
        x.need(0, 0, 2, 1);
        x.need(0, 1, 0, 2);
        Talks.words(x, 0, 0, 3, 2, 2);
        Talks.row(x, 0, 1, 0, 100);
        Talks.row(x, 0, 6, 0, 101);
        Talks.row(x, 0, 6, 0, 102);
        Talks.row(x, 0, 2, 0, 30, 101);
        x.open(0);
        Talks.hear(x, 10);
        Talks.place(x, "in doubt, not wanted", 0, 1, 1, 0);
        Due.is("what is not wanted is not confirmed", 200, x.act());
        Talks.hear(x, 0);
        Due.is("nothing more is wanted", 0, x.act());
        Talks.hear(x, 2);
        Due.is("the second need", 1, x.about(0, 1, 2));
        Due.is("CONFIRM", 110, x.act());
        Talks.hear(x, 1);
        Due.is("the first need", 1, x.about(0, 1, 2));
        Due.is("a place that is not sure fulfils no need", 0, x.about(0, 2, 2));
        Talks.hear(x, 30, 10);
        Due.is("now it does", 1, x.about(0, 2, 2));
        Due.is("ASK", 220, x.act());
        Talks.hear(x, 0);
        Due.is("place 1 is wanted no more", 0, x.about(0, 1, 2));
        Due.is("place 2 is, as place 1 is sure", 1, x.about(0, 2, 2));
        Due.is("ASK", 220, x.act());
    }

    /** A form with one place in doubt by all its values; 30, 31 are YES, 32, 33 NO. */
    private static TalkKeeper doubtful() {
        TalkKeeper x = new TalkKeeper();
        Talks.form(x, 3, 2);
        Talks.form(x, 2);
        x.bar(0, 0, 1, 1, 1);
        x.bar(0, 0, 0, 1, 1);
        x.bar(0, 1, 1, 0, 0);
        Talks.words(x, 0, 0, 3, 2);
        Talks.row(x, 0, 3, 0, 100, 200, 200);
        Talks.row(x, 0, 3, 0, 200, 100, 200);
        Talks.row(x, 0, 3, 0, 200, 200, 100);
        Talks.row(x, 0, 1, 0, 101);
        Talks.row(x, 0, 1, 1, 30);
        Talks.row(x, 0, 2, 1, 31, 200);
        Talks.row(x, 0, 1, 2, 32);
        Talks.row(x, 0, 2, 2, 33, 200);
        x.open(0);
        Due.is("three ways", 3, Talks.hear(x, 0, 1, 2));
        Talks.place(x, "in doubt", 0, 0, 7, 0);
        return x;
    }

    private static void yesAndNo() {
        TalkKeeper x = doubtful();
        Due.is("CONFIRM", 100, x.act());
        Due.is("NO", 1, Talks.hear(x, 32));
        Talks.place(x, "0 goes", 0, 0, 6, 0);
        Due.is("CONFIRM", 101, x.act());
        Due.is("NO of two words", 2, Talks.hear(x, 33, 50));
        Talks.place(x, "1 goes, and 2 is not sure", 0, 0, 4, 0);
        Due.is("CONFIRM", 102, x.act());
        Due.is("NO", 1, Talks.hear(x, 32));
        Talks.place(x, "EMPTY", 0, 0, 0, 0);
        Due.is("ASK", 200, x.act());
        Due.is("four lines", 4, x.count(3));
        Due.is("back()", 3, x.back());
        Talks.place(x, "the last NO is taken back", 0, 0, 4, 0);
        x.back();
        Talks.place(x, "and the one ahead", 0, 0, 6, 0);
        Due.is("CONFIRM", 101, x.act());
        Due.is("YES of two words", 2, Talks.hear(x, 31, 50));
        Talks.place(x, "sure", 0, 0, 2, 1);
        Due.is("no rule", NONE, x.heard(4));
        x.back();
        Talks.place(x, "YES is taken back", 0, 0, 6, 0);
    }

    private static void yesIsBarred() {
        TalkKeeper x = doubtful();
        Talks.hear(x, 11);
        Talks.place(x, "place 1", 0, 1, 2, 1);
        Due.is("CONFIRM", 100, x.act());
        Due.is("YES", 1, Talks.hear(x, 30));
        Talks.line(x, "barred", 1, 1, 0, 1, 1);
        Talks.place(x, "it stays", 0, 0, 7, 0);
        Due.is("CONFIRM", 100, x.act());
        Talks.hear(x, 32);
        Due.is("NO breaks no rule", NONE, x.heard(4));
        x.act();
        Talks.hear(x, 30);
        Due.is("rule", 0, x.heard(4));
        x.act();
        Talks.hear(x, 32);
        x.act();
        Talks.hear(x, 30);
        Talks.place(x, "not barred", 0, 0, 4, 1);
    }

    private static void answersWithoutQuestion() {
        TalkKeeper x = doubtful();
        Due.is("YES without act()", 1, Talks.hear(x, 30));
        Talks.place(x, "no act()", 0, 0, 7, 0);
        Due.is("it is a line all the same", 2, x.count(3));
        x.act();
        Due.is("a line that is not heard", 106, Talks.hear(x, 50));
        Due.is("NO behind it", 1, Talks.hear(x, 32));
        Talks.place(x, "it counts", 0, 0, 6, 0);
        Due.is("NO once more", 1, Talks.hear(x, 32));
        Talks.place(x, "something was heard since", 0, 0, 6, 0);
        x.act();
        x.back();
        Talks.hear(x, 32);
        Talks.place(x, "something was taken back since", 0, 0, 6, 0);
        x.act();
        x.open(1);
        x.close();
        Talks.hear(x, 32);
        Talks.place(x, "opened and closed since", 0, 0, 6, 0);
        x.act();
        x.worst();
        x.open(0);
        x.hear();
        x.about(0, 0, 0);
        Talks.hear(x, 32);
        Talks.place(x, "refusals change nothing", 0, 0, 4, 0);
        x.act();
        Talks.hear(x, 10);
        Talks.hear(x, 30);
        Talks.place(x, "another line was heard since", 0, 0, 4, 0);
    }

    private static void answersAsOneRow() {
        TalkKeeper x = doubtful();
        x.act();
        Due.is("a word passed over beside it", 7, Talks.hear(x, 30, 50));
        Talks.place(x, "not the whole line", 0, 0, 7, 0);
        x.act();
        Due.is("two rows", 2, Talks.hear(x, 30, 30));
        Talks.place(x, "two rows", 0, 0, 7, 0);
        Talks.row(x, 0, 1, 1, 30);
        x.act();
        Due.is("two rows with that act", 1, Talks.hear(x, 30));
        Talks.place(x, "sure", 0, 0, 1, 1);
        x.back();
        Talks.row(x, 0, 1, 2, 30);
        x.act();
        Due.is("YES and NO", 1, Talks.hear(x, 30));
        Due.is("three readings", 3, x.heard(3));
        Talks.place(x, "YES and NO", 0, 0, 7, 0);
        Talks.row(x, 0, 6, 2, 40);
        x.act();
        Due.is("NO at 6", 6, Talks.hear(x, 40));
        Talks.place(x, "or passed over", 0, 0, 7, 0);
        Talks.row(x, 0, 7, 2, 41, 42);
        Talks.row(x, 0, 1, 2, 42);
        x.act();
        Due.is("NO, or a word passed over and NO", 7, Talks.hear(x, 41, 42));
        Due.is("two readings", 2, x.heard(3));
        Talks.place(x, "not all are one row", 0, 0, 7, 0);
        Talks.row(x, 0, 2, 2, 42, 42);
        x.act();
        Due.is("NO, or NO and NO", 2, Talks.hear(x, 42, 42));
        Due.is("two readings", 2, x.heard(3));
        Talks.place(x, "not all are one row", 0, 0, 7, 0);
        Talks.row(x, 0, 1, 0, 32);
        x.act();
        Due.is("NO or FILL", 1, Talks.hear(x, 32));
        Talks.place(x, "NO or FILL", 0, 0, 7, 0);
    }

    private static void worst() {
        TalkKeeper x = new TalkKeeper();
        Due.is("no form in the talk", STATE, x.worst());
        Talks.form(x, 4, 4, 4, 4, 4);
        Talks.words(x, 0, 0, 4, 4, 4, 4, 4);
        Talks.row(x, 0, 1, 0, 100);
        Talks.row(x, 0, 6, 0, 101);
        Due.is("not open", STATE, x.worst());
        x.open(0);
        Due.is("five", 5, x.worst());
        Talks.hear(x, 1);
        Due.is("four", 4, x.worst());
        Talks.hear(x, 11);
        Due.is("a doubt is asked for, too", 4, x.worst());
        Talks.place(x, "worst() changes nothing", 0, 1, 2, 0);
        Talks.place(x, "worst() changes nothing", 0, 0, 2, 1);
    }

    private static void worstChoosesOrder() {
        TalkKeeper x = new TalkKeeper();
        Talks.form(x, 2, 2, 2, 2);
        // place 1 sure of 0 wants 2, of 1 wants 3; place 0 of 0 wants 2, too
        x.need(0, 1, 0, 2);
        x.need(0, 1, 1, 3);
        x.bar(0, 0, 0, 1, 0);
        x.bar(0, 0, 1, 1, 1);
        x.open(0);
        Due.is("worst", 3, x.worst());
        Due.is("the least of two alike", 200, x.act());
        x = new TalkKeeper();
        Talks.form(x, 2, 2, 2);
        // asked first, place 1 may be 0, and then nothing can be said of place 0
        x.bar(0, 0, 0, 1, 0);
        x.bar(0, 0, 1, 1, 0);
        x.open(0);
        Due.is("place 0 first", 3, x.worst());
        Due.is("place 0 first", 200, x.act());
        x = new TalkKeeper();
        Talks.form(x, 2, 2, 2);
        x.bar(0, 1, 0, 0, 0);
        x.bar(0, 1, 1, 0, 0);
        x.open(0);
        Due.is("place 1 first", 3, x.worst());
        Due.is("place 1 first", 210, x.act());
    }

    private static void worstOfNothing() {
        TalkKeeper x = new TalkKeeper();
        Talks.form(x);
        Talks.form(x, 2, 2);
        x.need(1, 0, 0, 1);
        x.need(1, 1, 0, 0);
        x.open(0);
        Due.is("no places", 0, x.worst());
        x.open(1);
        Due.is("each is wanted only with the other", 0, x.worst());
        Due.is("END", 0, x.act());
    }

    private static void worstIsHopeless() {
        TalkKeeper x = new TalkKeeper();
        Talks.form(x, 2, 2, 3);
        x.bar(0, 0, 0, 1, 0);
        x.bar(0, 0, 1, 1, 0);
        Talks.words(x, 0, 0, 2, 2, 3);
        Talks.row(x, 0, 1, 0, 101);
        Talks.row(x, 0, 1, 0, 102);
        x.open(0);
        Talks.hear(x, 10);
        Due.is("place 0 can't be asked", 100, x.worst());
        // by the document's words all places are alike then, with 100: the least is asked for
        Due.is("ASK the least", 200, x.act());
        Talks.hear(x, 20);
        Due.is("only place 0 is left", 100, x.worst());
        Due.is("ASK all the same", 200, x.act());
        Talks.hear(x, 11);
        Due.is("now it can be", 1, x.worst());
        x = new TalkKeeper();
        Talks.form(x, 2, 2);
        for (int v = 0; v < 2; v++) {
            x.bar(0, 0, v, 1, 0);
            x.bar(0, 0, v, 1, 1);
        }
        x.open(0);
        Due.is("never more than 100", 100, x.worst());
        Due.is("ASK the least", 200, x.act());
    }

    private static void worstCountsBars() {
        TalkKeeper x = new TalkKeeper();
        Talks.form(x, 2, 2, 2);
        x.worked(0, 2, 0, 1);
        // place 2 is wanted only with both alike, which the bar rules out
        x.need(0, 3, 0, 2);
        Due.is("bar", 1, x.bar(0, 3, 0, 1, 0));
        Due.is("bar", 2, x.bar(0, 3, 0, 1, 1));
        x.open(0);
        Due.is("two", 2, x.worst());
        x.close();
        x = new TalkKeeper();
        Talks.form(x, 2, 2, 2);
        x.worked(0, 2, 0, 1);
        x.need(0, 3, 0, 2);
        x.open(0);
        Due.is("three without a bar", 3, x.worst());
        x = new TalkKeeper();
        Talks.form(x, 2, 2, 2, 2);
        x.need(0, 0, 1, 1);
        x.need(0, 1, 1, 2);
        x.bar(0, 0, 1, 3, 1);
        x.bar(0, 0, 1, 3, 0);
        x.open(0);
        Due.is("place 3 first leaves 0 for place 0", 2, x.worst());
        Due.is("so it is asked for", 230, x.act());
    }
}
