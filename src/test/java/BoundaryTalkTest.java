/** The boundary cases of the pile, of YES and NO, of lines not heard and taken back: promises 10, 11 and 14. */
final class BoundaryTalkTest {
    private static final int NONE = Talks.NONE, STATE = Talks.STATE;
    private static final int YES = 40, NO = 41, PASSED = 50;

    public static void main(String[] args) {
        pile();
        answers();
        takenBack();
        promises();
        Sentence.end();
    }

    private static void pile() {
        Sentence.holds("THE TALK is a pile of FORMS, none twice", BoundaryTalkTest::noneTwice);
        Sentence.holds("3 at most", BoundaryTalkTest::threeAtMost);
        Sentence.holds("the uppermost is spoken of", BoundaryTalkTest::uppermost);
    }

    private static void answers() {
        Sentence.holds("if all LEAST READINGS are one ROW", BoundaryTalkTest::allAreOneRow);
        Sentence.holds("for the whole LINE", BoundaryTalkTest::wholeLine);
        Sentence.holds("all with that ACT", BoundaryTalkTest::allWithThatAct);
        Sentence.holds("the latest act() was CONFIRM", BoundaryTalkTest::latestActConfirms);
        Sentence.holds("since then nothing was HEARD", BoundaryTalkTest::nothingHeardSince);
        Sentence.holds("nothing was TAKEN BACK", BoundaryTalkTest::nothingTakenBackSince);
        Sentence.holds("nothing was opened", BoundaryTalkTest::nothingOpenedSince);
        Sentence.holds("nothing was closed", BoundaryTalkTest::nothingClosedSince);
        Sentence.holds("YES: the PLACE is SURE of the VALUE asked about", BoundaryTalkTest::yes);
        Sentence.holds("(if that breaks a BAR, it stays as it is", BoundaryTalkTest::yesStays);
        Sentence.holds("the first such BAR is the BROKEN RULE)", BoundaryTalkTest::yesBreaksFirst);
        Sentence.holds("NO: that VALUE goes out of its set", BoundaryTalkTest::no);
        Sentence.holds("(EMPTY if it was the last one)", BoundaryTalkTest::noOfTheLast);
    }

    private static void takenBack() {
        Sentence.holds("A LINE that is not HEARD changes nothing", BoundaryTalkTest::notHeardChangesNothing);
        Sentence.holds("with 3 THE TALK is HANDED", BoundaryTalkTest::handedWithThree);
        Sentence.holds("how many such came one behind the other", BoundaryTalkTest::oneBehindTheOther);
        Sentence.holds("till something is HEARD again", BoundaryTalkTest::tillHeard);
        Sentence.holds("the latest LINE that was HEARD and not taken back since", BoundaryTalkTest::latestHeard);
        Sentence.holds("all PLACES of all FORMS become as they were ahead of it", BoundaryTalkTest::allPlaces);
        Sentence.holds("(10 are kept", BoundaryTalkTest::tenAreKept);
        Sentence.holds("none, once a FORM was opened since", BoundaryTalkTest::noneOnceOpened);
        Sentence.holds("none, once a FORM was closed since)", BoundaryTalkTest::noneOnceClosed);
    }

    private static void promises() {
        Sentence.holds("10: opened on top of THE TALK: how many are in it", BoundaryTalkTest::openHowMany);
        Sentence.holds("10: all its PLACES EMPTY", BoundaryTalkTest::openEmpties);
        Sentence.holds("10: NONE", BoundaryTalkTest::openNone);
        Sentence.holds("10: STATE: it is in it", BoundaryTalkTest::openState);
        Sentence.holds("11: The uppermost FORM goes: which it was", BoundaryTalkTest::closeWhich);
        Sentence.holds("11: its PLACES stay as they are till it is opened again", BoundaryTalkTest::closeStays);
        Sentence.holds("11: STATE: there is none", BoundaryTalkTest::closeState);
        Sentence.holds("14: how many can be, still", BoundaryTalkTest::backHowMany);
        Sentence.holds("14: STATE: none can be", BoundaryTalkTest::backState);
    }

    /**
     * Two forms; in the first, which is open, words 0 .. 3 make place 0 SURE, and put it in doubt
     * behind word 20; 10, 11 make place 1 SURE.
     */
    private static TalkKeeper talk() {
        TalkKeeper x = new TalkKeeper();
        Talks.form(x, 4, 2);
        Talks.form(x, 2);
        built(x);
        return x;
    }

    private static void built(TalkKeeper x) {
        Talks.words(x, 0, 0, 4, 2);
        Talks.row(x, 0, 1, 0, 100);
        Talks.row(x, 0, 6, 0, 20, 100);
        Talks.row(x, 0, 6, 0, 20, 200);
        Talks.row(x, 0, 1, 0, 101);
        Talks.row(x, 0, 1, 1, YES);
        Talks.row(x, 0, 1, 2, NO);
        x.open(0);
    }

    /** As talk(), with place 0 in doubt between 1 and 2, and CONFIRM said of value 1. */
    private static TalkKeeper asked() {
        TalkKeeper x = talk();
        doubt(x);
        return x;
    }

    private static void doubt(TalkKeeper x) {
        Talks.hear(x, 2);
        Talks.row(x, 0, 1, 0, 21, 100);
        Talks.row(x, 0, 1, 0, 21, 200);
        Due.is("one fills, one does not", 1, Talks.hear(x, 21, 1));
        Talks.place(x, "in doubt", 0, 0, 6, 0);
        Due.is("CONFIRM", 101, x.act());
    }

    private static void untouched(TalkKeeper x, String when) {
        Talks.place(x, when, 0, 0, 6, 0);
    }

    // ---- the pile

    private static void noneTwice() {
        TalkKeeper x = talk();
        Due.is("alone in it", STATE, x.open(0));
        x.open(1);
        Due.is("below", STATE, x.open(0));
        Due.is("uppermost", STATE, x.open(1));
        Due.is("two", 2, x.count(0));
    }

    private static void threeAtMost() {
        TalkKeeper x = talk();
        Talks.form(x, 2);
        Due.is("two", 2, x.open(2));
        Due.is("three", 3, x.open(1));
        for (int f = 0; f < 3; f++) {
            Due.is("a fourth", STATE, x.open(f));
        }
        Due.is("there is no other", NONE, x.open(3));
        Due.is("three", 3, x.count(0));
        Due.is("the last on top", 1, x.close());
        Due.is("then", 2, x.close());
        Due.is("then", 0, x.close());
    }

    private static void uppermost() {
        TalkKeeper x = talk();
        Due.is("form 0 asks", 200, x.act());
        Due.is("form 0 needs two", 2, x.worst());
        x.open(1);
        Due.is("form 1 needs one", 1, x.worst());
        Due.is("form 1 has no rows", 106, Talks.hear(x, 1));
        x.close();
        Due.is("form 0 needs two", 2, x.worst());
        Due.is("form 0 reads", 1, Talks.hear(x, 1));
    }

    // ---- YES and NO

    private static void allAreOneRow() {
        TalkKeeper x = asked();
        Talks.row(x, 0, 1, 1, YES);
        Talks.hear(x, YES);
        Due.is("two readings, each one ROW", 2, x.heard(3));
        Talks.place(x, "YES", 0, 0, 2, 1);
        x = asked();
        Talks.row(x, 0, 6, 1, 42);
        Talks.hear(x, 42);
        Due.is("a ROW, or passed over", 2, x.heard(3));
        untouched(x, "one passes over");
        x = asked();
        Talks.row(x, 0, 2, 1, YES, YES);
        Talks.hear(x, YES, YES);
        Due.is("one ROW, or two", 2, x.heard(3));
        untouched(x, "one has two ROWS");
        x = asked();
        Talks.row(x, 0, 7, 1, PASSED, YES);
        Talks.hear(x, PASSED, YES);
        Due.is("one ROW, or a word passed over and a ROW", 2, x.heard(3));
        untouched(x, "one has a word passed over");
        x = asked();
        Talks.row(x, 0, 7, 2, NO, PASSED);
        Talks.hear(x, NO, PASSED);
        Due.is("one ROW, or a ROW and a word passed over", 2, x.heard(3));
        untouched(x, "one has a word passed over");
    }

    private static void wholeLine() {
        TalkKeeper x = asked();
        Due.is("a word passed over behind", 7, Talks.hear(x, YES, PASSED));
        untouched(x, "behind");
        x = asked();
        Due.is("a word passed over ahead", 7, Talks.hear(x, PASSED, NO));
        untouched(x, "ahead");
        x = asked();
        Due.is("two ROWS", 2, Talks.hear(x, NO, NO));
        untouched(x, "two ROWS");
        x = asked();
        Talks.row(x, 0, 1, 2, 45, 46, 200, 200);
        Due.is("a ROW of four", 1, Talks.hear(x, 45, 46, 0, 63));
        Talks.place(x, "NO", 0, 0, 4, 0);
    }

    private static void allWithThatAct() {
        TalkKeeper x = asked();
        Talks.row(x, 0, 1, 2, YES);
        Talks.hear(x, YES);
        untouched(x, "YES or NO");
        x = asked();
        Talks.row(x, 0, 1, 0, NO);
        Talks.hear(x, NO);
        untouched(x, "NO or FILL");
        x = asked();
        Talks.row(x, 0, 2, 0, NO);
        Talks.hear(x, NO);
        Talks.place(x, "FILL is dearer", 0, 0, 4, 0);
        x = asked();
        Talks.row(x, 0, 1, 0, 43);
        Talks.hear(x, 43);
        untouched(x, "FILL without a PLACE");
        firstAndLastRow();
    }

    /** The first ROW there is and the last there can be count as all do. */
    private static void firstAndLastRow() {
        for (int act = 0; act <= 2; act++) {
            TalkKeeper x = new TalkKeeper();
            Talks.form(x, 2);
            Talks.row(x, 0, 1, act, YES);
            x.word(0, 0, 1, 1);
            Talks.row(x, 0, 6, 0, 100);
            while (x.count(7) < 19) {
                Talks.row(x, 0, 1, 1, YES);
            }
            Talks.row(x, 0, 1, 1, NO);
            x.open(0);
            Talks.hear(x, 1);
            Due.is("CONFIRM", 101, x.act());
            Talks.hear(x, YES);
            Talks.place(x, "ROW 0 with act " + act, 0, 0, 2, act == 1 ? 1 : 0);
            x.back();
            x.act();
            Talks.hear(x, NO);
            Talks.place(x, "ROW 19", 0, 0, 2, 1);
        }
    }

    private static void latestActConfirms() {
        TalkKeeper x = talk();
        Talks.hear(x, 2);
        Talks.row(x, 0, 1, 0, 21, 100);
        Talks.row(x, 0, 1, 0, 21, 200);
        Talks.hear(x, 21, 1);
        Talks.hear(x, YES);
        untouched(x, "no act() at all");
        x.worst();
        Talks.hear(x, NO);
        untouched(x, "worst() is no act()");
        x.act();
        Due.is("CONFIRM twice", 101, x.act());
        Talks.hear(x, NO);
        Talks.place(x, "NO goes out once", 0, 0, 4, 0);
        x = talk();
        Due.is("ASK", 200, x.act());
        Talks.hear(x, YES);
        Talks.place(x, "ASK is no CONFIRM", 0, 0, 0, 0);
        Talks.hear(x, 1);
        Talks.hear(x, 10);
        Due.is("END", 0, x.act());
        Talks.hear(x, NO);
        Talks.place(x, "END is no CONFIRM", 0, 0, 2, 1);
    }

    private static void nothingHeardSince() {
        TalkKeeper x = asked();
        Talks.hear(x, 10);
        Talks.hear(x, YES);
        untouched(x, "a line that fills another PLACE");
        x.act();
        Talks.hear(x, YES, YES);
        Talks.hear(x, YES);
        untouched(x, "a line that fills nothing");
        x.act();
        Talks.hear(x, PASSED);
        Talks.hear(x, PASSED);
        Talks.hear(x, PASSED);
        Talks.hear(x, YES);
        Talks.place(x, "lines that are not HEARD", 0, 0, 2, 1);
        x = asked();
        Talks.hear(x, NO);
        Talks.hear(x, NO);
        Talks.place(x, "the answer itself was HEARD", 0, 0, 4, 0);
    }

    private static void nothingTakenBackSince() {
        TalkKeeper x = asked();
        Talks.hear(x, 10);
        Due.is("CONFIRM", 101, x.act());
        x.back();
        Talks.hear(x, YES);
        untouched(x, "taken back");
        x = asked();
        x.open(1);
        x.close();
        Due.is("CONFIRM", 101, x.act());
        Due.is("a refused back()", STATE, x.back());
        Talks.hear(x, YES);
        Talks.place(x, "refused", 0, 0, 2, 1);
    }

    private static void nothingOpenedSince() {
        TalkKeeper x = new TalkKeeper();
        Talks.form(x, 4, 2);
        Talks.form(x, 4);
        built(x);
        doubt(x);
        x.word(1, 0, 1, 1);
        Talks.row(x, 1, 6, 0, 100);
        Talks.row(x, 1, 1, 1, YES);
        Due.is("another one is opened", 2, x.open(1));
        Due.is("in doubt there, too", 6, Talks.hear(x, 1));
        Talks.hear(x, YES);
        Talks.place(x, "not asked here", 1, 0, 2, 0);
        untouched(x, "below");
        x = asked();
        Due.is("a refused open(): in it", STATE, x.open(0));
        Due.is("a refused open(): none", NONE, x.open(2));
        Talks.hear(x, YES);
        Talks.place(x, "refused", 0, 0, 2, 1);
    }

    private static void nothingClosedSince() {
        TalkKeeper x = new TalkKeeper();
        Talks.form(x, 4, 2);
        Talks.form(x, 4);
        built(x);
        doubt(x);
        x.word(1, 0, 1, 1);
        Talks.row(x, 1, 6, 0, 100);
        x.open(1);
        Talks.hear(x, 1);
        Due.is("CONFIRM in form 1", 101, x.act());
        x.close();
        Talks.hear(x, YES);
        untouched(x, "closed since");
        Due.is("CONFIRM in form 0", 101, x.act());
        Talks.hear(x, YES);
        Talks.place(x, "asked anew", 0, 0, 2, 1);
    }

    private static void yes() {
        TalkKeeper x = asked();
        Talks.hear(x, YES);
        Talks.place(x, "of a set of two", 0, 0, 2, 1);
        x = talk();
        Due.is("a set of one", 6, Talks.hear(x, 20, 3));
        Talks.place(x, "in doubt", 0, 0, 8, 0);
        Due.is("CONFIRM", 103, x.act());
        Talks.hear(x, YES);
        Talks.place(x, "of a set of one, the greatest VALUE", 0, 0, 8, 1);
        Due.is("it can be taken back", 1, x.back());
        Talks.place(x, "taken back", 0, 0, 8, 0);
    }

    private static TalkKeeper barred() {
        TalkKeeper x = new TalkKeeper();
        Talks.form(x, 4, 2);
        x.need(0, 0, 3, 1);
        x.bar(0, 1, 0, 0, 1);
        x.bar(0, 1, 1, 0, 1);
        x.bar(0, 0, 1, 1, 1);
        built(x);
        Talks.hear(x, 11);
        doubt(x);
        return x;
    }

    private static void yesStays() {
        TalkKeeper x = barred();
        Due.is("YES", 1, Talks.hear(x, YES));
        untouched(x, "barred");
        Due.is("it was HEARD", 1, x.heard(1));
        Due.is("CONFIRM again", 101, x.act());
        Talks.hear(x, NO);
        Talks.place(x, "NO breaks none", 0, 0, 4, 0);
        Due.is("CONFIRM the other", 102, x.act());
        Talks.hear(x, YES);
        Talks.place(x, "not barred", 0, 0, 4, 1);
    }

    private static void yesBreaksFirst() {
        TalkKeeper x = barred();
        Talks.hear(x, YES);
        Due.is("2 and 3 are broken", 2, x.heard(4));
        x.act();
        Talks.hear(x, NO);
        Due.is("NO breaks none", NONE, x.heard(4));
    }

    private static void no() {
        TalkKeeper x = talk();
        Talks.row(x, 0, 1, 0, 22, 100, 100, 200);
        Talks.row(x, 0, 1, 0, 22, 200, 100, 100);
        Talks.row(x, 0, 1, 0, 22, 100, 200, 200);
        Talks.row(x, 0, 1, 0, 22, 200, 200, 200);
        Talks.hear(x, 3);
        Talks.hear(x, 22, 0, 1, 2);
        Talks.place(x, "all four", 0, 0, 15, 0);
        for (int v = 0; v < 3; v++) {
            Due.is("CONFIRM the least", 100 + v, x.act());
            Due.is("NO", 1, Talks.hear(x, NO));
            Talks.place(x, "without " + v, 0, 0, 15 & 14 << v, 0);
        }
        Due.is("one is left, not SURE", 103, x.act());
    }

    private static void noOfTheLast() {
        TalkKeeper x = talk();
        Talks.hear(x, 20, 0);
        Talks.place(x, "one", 0, 0, 1, 0);
        Due.is("CONFIRM", 100, x.act());
        Talks.hear(x, NO);
        Talks.place(x, "EMPTY", 0, 0, 0, 0);
        Due.is("so it is asked for", 200, x.act());
        x.back();
        Talks.place(x, "taken back", 0, 0, 1, 0);
    }

    // ---- not heard, and taken back

    private static void notHeardChangesNothing() {
        TalkKeeper x = asked();
        Talks.hear(x, 10);
        int kept = x.count(3);
        Due.is("CONFIRM", 101, x.act());
        Due.is("not HEARD", 112, Talks.hear(x, PASSED, PASSED));
        untouched(x, "not HEARD");
        Talks.place(x, "not HEARD", 0, 1, 1, 1);
        Due.is("no line more to take back", kept, x.count(3));
        Talks.hear(x, YES);
        Talks.place(x, "asked still", 0, 0, 2, 1);
    }

    private static void handedWithThree() {
        TalkKeeper x = talk();
        Due.is("none", 0, x.count(2));
        Talks.hear(x, PASSED);
        Due.is("1", 0, x.count(2));
        Talks.hear(x, PASSED);
        Due.is("2", 0, x.count(2));
        Talks.hear(x, PASSED);
        Due.is("3", 1, x.count(2));
        for (int i = 4; i < 150; i++) {
            Talks.hear(x, PASSED);
            Due.is("more", 1, x.count(2));
        }
    }

    private static void oneBehindTheOther() {
        TalkKeeper x = talk();
        for (int time = 0; time < 3; time++) {
            Talks.hear(x, PASSED);
            Talks.hear(x, PASSED);
            Due.is("two", 0, x.count(2));
            Talks.hear(x, 1);
            Due.is("one that is HEARD between", 0, x.count(2));
        }
        Talks.hear(x, PASSED);
        x.back();
        Talks.hear(x, PASSED);
        x.act();
        x.open(1);
        Due.is("two", 0, x.count(2));
        Talks.hear(x, PASSED);
        Due.is("other calls between", 1, x.count(2));
    }

    private static void tillHeard() {
        TalkKeeper x = talk();
        Talks.hear(x, 1);
        for (int i = 0; i < 4; i++) {
            Talks.hear(x, PASSED);
        }
        x.back();
        x.act();
        x.open(1);
        x.close();
        x.close();
        x.open(0);
        Due.is("nothing was HEARD", 1, x.count(2));
        Talks.hear(x, 1);
        Due.is("HEARD", 0, x.count(2));
        Talks.hear(x, PASSED);
        Talks.hear(x, PASSED);
        Due.is("two anew", 0, x.count(2));
        Talks.hear(x, PASSED);
        Due.is("three anew", 1, x.count(2));
        Talks.hear(x, YES);
        Due.is("a YES without a question is HEARD, too", 0, x.count(2));
    }

    private static void latestHeard() {
        TalkKeeper x = talk();
        Talks.hear(x, 0);
        Talks.hear(x, 1);
        Talks.hear(x, 2);
        x.back();
        Talks.place(x, "2 is taken back", 0, 0, 2, 1);
        Talks.hear(x, PASSED);
        x.back();
        Talks.place(x, "then 1; what is not HEARD is no such LINE", 0, 0, 1, 1);
        Talks.hear(x, 3);
        x.back();
        Talks.place(x, "then 3, which came since", 0, 0, 1, 1);
        x.back();
        Talks.place(x, "then 0", 0, 0, 0, 0);
        Talks.hear(x, YES);
        Talks.hear(x, 1);
        x.back();
        Due.is("a LINE that changed nothing is one, too", 1, x.count(3));
        x.back();
        Talks.place(x, "it changed nothing", 0, 0, 0, 0);
    }

    private static void allPlaces() {
        TalkKeeper x = new TalkKeeper();
        Talks.form(x, 2);
        Talks.form(x, 2);
        Talks.form(x, 2, 2, 2, 2, 2);
        for (int f = 0; f < 2; f++) {
            Talks.words(x, f, 0, 2);
            Talks.row(x, f, 1, 0, 100);
            x.open(f);
            Talks.hear(x, 1);
        }
        Talks.words(x, 2, 0, 2, 2, 2, 2, 2);
        Talks.row(x, 2, 1, 0, 100, 101);
        Talks.row(x, 2, 1, 0, 102, 103, 104);
        x.open(2);
        Talks.hear(x, 0, 10);
        Talks.hear(x, 21, 31, 41);
        Talks.hear(x, 1, 11, 20, 30, 40);
        for (int p = 0; p < 5; p++) {
            Talks.place(x, "all turned", 2, p, p < 2 ? 2 : 1, 1);
        }
        x.back();
        for (int p = 0; p < 5; p++) {
            Talks.place(x, "all turned back", 2, p, p < 2 ? 1 : 2, 1);
        }
        Talks.place(x, "another form, below", 0, 0, 2, 1);
        Talks.place(x, "another form, below", 1, 0, 2, 1);
        x.back();
        for (int p = 2; p < 5; p++) {
            Talks.place(x, "EMPTY as ahead", 2, p, 0, 0);
        }
        x = talk();
        Talks.hear(x, 1);
        Talks.form(x, 2, 2, 2, 2, 2);
        x.place(1, 0, 2);
        x.back();
        for (int p = 0; p < 5; p++) {
            Talks.place(x, "a FORM that came since", 2, p, 0, 0);
        }
        Talks.place(x, "a PLACE that came since", 1, 1, 0, 0);
    }

    private static void tenAreKept() {
        for (int lines = 9; lines <= 23; lines += lines < 11 ? 1 : 12) {
            TalkKeeper x = talk();
            for (int i = 0; i < lines; i++) {
                Talks.hear(x, i % 4);
            }
            int kept = Math.min(10, lines);
            Due.is(lines + " lines", kept, x.count(3));
            for (int i = 1; i <= kept; i++) {
                Due.is("back", kept - i, x.back());
                int ahead = lines - i - 1;
                Talks.place(x, "line " + ahead, 0, 0, ahead < 0 ? 0 : 1 << ahead % 4, ahead < 0 ? 0 : 1);
            }
            Due.is("no more", STATE, x.back());
        }
        for (int f = 0; f < 3; f++) {
            tenOfAForm(f);
        }
    }

    /** All five PLACES of a FORM, through more LINES than are kept. */
    private static void tenOfAForm(int f) {
        TalkKeeper x = new TalkKeeper();
        for (int i = 0; i < 3; i++) {
            Talks.form(x, 4, 4, 4, 4, 4);
        }
        Talks.words(x, f, 0, 4, 4, 4, 4, 4);
        for (int p = 0; p < 5; p++) {
            Talks.row(x, f, 1, 0, 100 + p);
        }
        x.open(f);
        for (int i = 0; i < 21; i++) {
            Talks.hear(x, i % 4, 10 + (i + 1) % 4, 20 + i / 2 % 4, 30 + i / 3 % 4, 40 + i / 4 % 4);
        }
        for (int i = 19; i >= 10; i--) {
            Due.is("back", i - 10, x.back());
            int[] values = {i % 4, (i + 1) % 4, i / 2 % 4, i / 3 % 4, i / 4 % 4};
            for (int p = 0; p < 5; p++) {
                Talks.place(x, "form " + f + ", line " + i, f, p, 1 << values[p], 1);
            }
        }
    }

    private static void noneOnceOpened() {
        TalkKeeper x = talk();
        Talks.hear(x, 1);
        Talks.hear(x, 2);
        Due.is("refused: it is in it", STATE, x.open(0));
        Due.is("refused: there is none", NONE, x.open(2));
        Due.is("two", 2, x.count(3));
        x.open(1);
        Due.is("none", 0, x.count(3));
        Due.is("none", STATE, x.back());
        Talks.place(x, "as it was", 0, 0, 4, 1);
    }

    private static void noneOnceClosed() {
        TalkKeeper x = talk();
        x.open(1);
        Talks.row(x, 1, 1, 0, 5);
        Talks.hear(x, 5);
        Due.is("one", 1, x.count(3));
        x.close();
        Due.is("none", 0, x.count(3));
        Due.is("none", STATE, x.back());
        Talks.hear(x, 1);
        Due.is("one anew", 1, x.count(3));
        x.close();
        Due.is("none without a form", STATE, x.back());
        Talks.place(x, "as it was", 0, 0, 2, 1);
        Due.is("refused: there is none to close", STATE, x.close());
        x.open(0);
        Talks.hear(x, 1);
        Talks.hear(x, 2);
        Due.is("two anew", 2, x.count(3));
        x.back();
        Talks.place(x, "the first of them", 0, 0, 2, 1);
    }

    // ---- promises

    private static void openHowMany() {
        TalkKeeper x = new TalkKeeper();
        for (int f = 0; f < 3; f++) {
            Talks.form(x, 2);
        }
        Due.is("the first", 1, x.open(2));
        Due.is("the second", 2, x.open(0));
        Due.is("the third", 3, x.open(1));
        Due.is("on top", 1, x.count(1));
        x.close();
        x.close();
        Due.is("the second again", 2, x.open(1));
    }

    private static void openEmpties() {
        TalkKeeper x = new TalkKeeper();
        Talks.form(x, 2, 2, 2, 2);
        x.worked(0, 2, 0, 3);
        Talks.words(x, 0, 0, 2, 2, 2, 2);
        Talks.row(x, 0, 1, 0, 100, 101);
        Talks.row(x, 0, 1, 0, 103);
        Talks.row(x, 0, 6, 0, 102);
        x.open(0);
        Talks.hear(x, 1, 11, 31);
        Talks.hear(x, 20);
        Talks.place(x, "worked", 0, 4, 1, 1);
        x.close();
        x.open(0);
        for (int p = 0; p < 5; p++) {
            Talks.place(x, "opened again", 0, p, 0, 0);
        }
        Talks.form(x, 2);
        Talks.hear(x, 1, 11);
        x.open(1);
        Talks.place(x, "another form is not emptied", 0, 0, 2, 1);
    }

    private static void openNone() {
        TalkKeeper x = new TalkKeeper();
        Due.is("no form at all", NONE, x.open(0));
        Talks.form(x, 2);
        for (int wild : Talks.WILD) {
            Due.is("open(" + wild + ")", NONE, x.open(wild));
        }
        Due.is("open(1)", NONE, x.open(1));
        Due.is("open(0)", 1, x.open(0));
        Due.is("open(1)", NONE, x.open(1));
    }

    private static void openState() {
        TalkKeeper x = talk();
        Talks.hear(x, 1);
        Due.is("it is in it", STATE, x.open(0));
        Talks.place(x, "it is not emptied", 0, 0, 2, 1);
        x.open(1);
        Due.is("below", STATE, x.open(0));
        Talks.place(x, "it is not emptied", 0, 0, 2, 1);
        x.close();
        x.close();
        Due.is("it went", 1, x.open(0));
    }

    private static void closeWhich() {
        TalkKeeper x = new TalkKeeper();
        for (int f = 0; f < 3; f++) {
            Talks.form(x, 2);
        }
        x.open(1);
        x.open(2);
        x.open(0);
        Due.is("uppermost", 0, x.close());
        Due.is("then", 2, x.close());
        Due.is("then", 1, x.close());
        Due.is("none", 0, x.count(0));
        Due.is("none", NONE, x.count(1));
    }

    private static void closeStays() {
        TalkKeeper x = talk();
        Talks.hear(x, 3);
        Talks.hear(x, 20, 1);
        x.close();
        Talks.place(x, "closed", 0, 0, 10, 0);
        x.open(1);
        Talks.place(x, "another is opened", 0, 0, 10, 0);
        x.close();
        Talks.place(x, "and closed", 0, 0, 10, 0);
        x.worked(0, 2, 0, 1);
        x.bar(0, 0, 1, 1, 1);
        Talks.place(x, "it is built on", 0, 0, 10, 0);
        x.open(0);
        Talks.place(x, "opened again", 0, 0, 0, 0);
    }

    private static void closeState() {
        TalkKeeper x = new TalkKeeper();
        Due.is("no form at all", STATE, x.close());
        Talks.form(x, 2);
        Due.is("none opened", STATE, x.close());
        x.open(0);
        Due.is("one", 0, x.close());
        Due.is("it went", STATE, x.close());
        Due.is("once more", STATE, x.close());
        Due.is("opened again", 1, x.open(0));
    }

    private static void backHowMany() {
        TalkKeeper x = talk();
        Talks.hear(x, 1);
        Due.is("none is left", 0, x.back());
        for (int i = 0; i < 10; i++) {
            Talks.hear(x, 1);
        }
        Due.is("nine are left", 9, x.back());
        Due.is("count tells it, too", 9, x.count(3));
        Talks.hear(x, 1);
        Talks.hear(x, 1);
        Due.is("nine are left again", 9, x.back());
    }

    private static void backState() {
        TalkKeeper x = new TalkKeeper();
        Due.is("new", STATE, x.back());
        x = talk();
        Due.is("no line", STATE, x.back());
        Talks.hear(x, PASSED);
        Due.is("none that was HEARD", STATE, x.back());
        Talks.hear(x, 1);
        x.back();
        Due.is("none is left", STATE, x.back());
        Talks.hear(x, 1);
        Due.is("one again", 0, x.back());
    }
}
