/** The boundary cases of part 3 of the terms, the act and worst: promises 15 and 16. */
final class BoundaryActTest {
    private static final int STATE = Talks.STATE;
    private static final int DOUBT = 50;

    public static void main(String[] args) {
        ends();
        confirms();
        asks();
        worst();
        Sentence.holds("15: 100 times what it is, 10 times its PLACE, and its VALUE (0 without)", BoundaryActTest::numbers);
        Sentence.holds("15: STATE: there is no FORM in THE TALK", BoundaryActTest::actState);
        Sentence.holds("16: WORST of the FORM that is spoken of", BoundaryActTest::worstOfUppermost);
        Sentence.holds("16: STATE", BoundaryActTest::worstState);
        Sentence.end();
    }

    private static void ends() {
        Sentence.holds("END, if each WANTED PLACE of the FORM is SURE", BoundaryActTest::endIfAllSure);
        Sentence.holds("END: a FORM without WANTED PLACES", BoundaryActTest::endWithoutPlaces);
    }

    private static void confirms() {
        Sentence.holds("CONFIRM, if a PLACE that is WANTED", BoundaryActTest::confirmWanted);
        Sentence.holds("is neither EMPTY nor SURE", BoundaryActTest::neitherEmptyNorSure);
        Sentence.holds("of the least such", BoundaryActTest::confirmLeastPlace);
        Sentence.holds("(SECRET ones not: they are asked for)", BoundaryActTest::secretIsAsked);
        Sentence.holds("the least VALUE of its set", BoundaryActTest::confirmLeastValue);
    }

    private static void asks() {
        Sentence.holds("ASK, of WANTED PLACES that are not SURE", BoundaryActTest::askWanted);
        Sentence.holds("that one by which WORST is least", BoundaryActTest::askLeastWorst);
        Sentence.holds("of several the least", BoundaryActTest::askLeastPlace);
    }

    private static void worst() {
        Sentence.holds("how many questions are needed, at most", BoundaryActTest::atMost);
        Sentence.holds("by the best order of asking", BoundaryActTest::bestOrder);
        Sentence.holds("SURE of any VALUE that breaks no BAR with SURE ones", BoundaryActTest::answersBreakNoBar);
        Sentence.holds("(WORKED ones, too)", BoundaryActTest::workedBarAnswers);
        Sentence.holds("any VALUE, of a PLACE in doubt, too", BoundaryActTest::anyValueInDoubt);
        Sentence.holds("0 with nothing WANTED that is not SURE", BoundaryActTest::zero);
        Sentence.holds("1 more than the greatest WORST behind the answers", BoundaryActTest::oneMore);
        Sentence.holds("A PLACE that has no such VALUE can't be asked", BoundaryActTest::cannotBeAsked);
        Sentence.holds("100 if none can be", BoundaryActTest::noneCanBeAsked);
        Sentence.holds("it is never more than 100", BoundaryActTest::neverMore);
    }

    /** A form of plain places; word 10 * p + v makes place p SURE of v, behind DOUBT it may be so. */
    private static TalkKeeper with(int... sizes) {
        TalkKeeper x = new TalkKeeper();
        Talks.form(x, sizes);
        return x;
    }

    private static void open(TalkKeeper x, int... sizes) {
        Talks.words(x, 0, 0, sizes);
        for (int p = 0; p < sizes.length; p++) {
            Talks.row(x, 0, 1, 0, 100 + p);
            Talks.row(x, 0, 1, 0, DOUBT, 100 + p);
        }
        Talks.row(x, 0, 1, 0, DOUBT, 200);
        x.open(0);
    }

    // ---- END

    private static void endIfAllSure() {
        TalkKeeper x = with(2, 2, 2, 2, 2);
        open(x, 2, 2, 2, 2, 2);
        for (int p = 0; p < 5; p++) {
            Due.is("not yet", 200 + 10 * p, x.act());
            Talks.hear(x, 10 * p);
        }
        Due.is("all five", 0, x.act());
        Talks.hear(x, DOUBT, 40);
        Due.is("the last in doubt", 140, x.act());
        x.back();
        Due.is("taken back", 0, x.act());
    }

    private static void endWithoutPlaces() {
        TalkKeeper x = with();
        x.open(0);
        Due.is("no PLACES", 0, x.act());
        x = with(2, 2);
        x.need(0, 0, 1, 1);
        x.need(0, 1, 1, 0);
        open(x, 2, 2);
        Due.is("none is WANTED", 0, x.act());
        Talks.hear(x, DOUBT, 1);
        Talks.place(x, "in doubt", 0, 0, 2, 0);
        Due.is("in doubt, but not WANTED", 0, x.act());
        x = with(2);
        x.worked(0, 2, 0, 0);
        open(x, 2);
        Talks.hear(x, 1);
        Due.is("WORKED ones are never WANTED", 0, x.act());
    }

    // ---- CONFIRM

    private static void confirmWanted() {
        TalkKeeper x = with(2, 2, 2);
        x.need(0, 2, 1, 0);
        open(x, 2, 2, 2);
        Talks.hear(x, DOUBT, 1);
        Talks.place(x, "in doubt", 0, 0, 2, 0);
        Due.is("not WANTED", 210, x.act());
        Talks.hear(x, 21);
        Due.is("WANTED", 101, x.act());
        Talks.hear(x, 20);
        Due.is("not WANTED again", 210, x.act());
    }

    private static void neitherEmptyNorSure() {
        TalkKeeper x = with(4);
        open(x, 4);
        Due.is("EMPTY", 200, x.act());
        Talks.hear(x, DOUBT, 0);
        Due.is("in doubt, of one VALUE", 100, x.act());
        Talks.hear(x, DOUBT, 3);
        Due.is("in doubt, of two", 100, x.act());
        Talks.hear(x, 3);
        Due.is("SURE", 0, x.act());
    }

    private static void confirmLeastPlace() {
        TalkKeeper x = with(2, 2, 2, 2, 2);
        open(x, 2, 2, 2, 2, 2);
        for (int p = 4; p >= 0; p--) {
            Talks.hear(x, DOUBT, 10 * p + p % 2);
            Due.is("place " + p, 100 + 10 * p + p % 2, x.act());
        }
        Talks.hear(x, 0);
        Due.is("SURE ones not", 111, x.act());
    }

    private static void secretIsAsked() {
        TalkKeeper x = new TalkKeeper();
        x.form();
        x.place(0, 2, 2);
        x.place(0, 0, 2);
        x.place(0, 2, 2);
        open(x, 2, 2, 2);
        Talks.hear(x, DOUBT, 1);
        Talks.place(x, "SECRET, in doubt", 0, 0, 2, 0);
        Due.is("it is asked for", 200, x.act());
        Talks.hear(x, DOUBT, 11);
        Due.is("a PLAIN one behind it is CONFIRMED first", 111, x.act());
        Talks.hear(x, 11);
        Due.is("then the SECRET one is asked for", 200, x.act());
        Talks.hear(x, 1);
        Talks.hear(x, DOUBT, 20);
        Due.is("the other SECRET one", 220, x.act());
        Talks.hear(x, 20);
        Due.is("END", 0, x.act());
    }

    private static void confirmLeastValue() {
        TalkKeeper x = with(4);
        open(x, 4);
        for (int v = 3; v >= 0; v--) {
            Talks.hear(x, DOUBT, v);
            Talks.place(x, "in doubt", 0, 0, 15 & 15 << v, 0);
            Due.is("the least VALUE", 100 + v, x.act());
        }
    }

    // ---- ASK

    private static void askWanted() {
        TalkKeeper x = with(2, 2, 2);
        x.need(0, 1, 1, 0);
        open(x, 2, 2, 2);
        Due.is("place 0 is not WANTED", 210, x.act());
        Talks.hear(x, 10);
        Due.is("place 1 is SURE", 220, x.act());
        Talks.hear(x, 11);
        Due.is("place 0 is WANTED", 200, x.act());
        Talks.hear(x, 0);
        Due.is("place 2 is left", 220, x.act());
    }

    private static void askLeastWorst() {
        TalkKeeper x = with(2, 2);
        // place 1 SURE of 0 leaves nothing for place 0
        x.bar(0, 0, 0, 1, 0);
        x.bar(0, 0, 1, 1, 0);
        x.open(0);
        Due.is("place 0 first", 200, x.act());
        x = with(2, 2);
        x.bar(0, 1, 0, 0, 0);
        x.bar(0, 1, 1, 0, 0);
        x.open(0);
        Due.is("place 1 first, though it is greater", 210, x.act());
        x = with(2, 2, 2, 2, 2);
        for (int v = 0; v < 2; v++) {
            x.bar(0, 0, v, 4, 1);
            x.bar(0, 1, v, 4, 0);
        }
        x.open(0);
        // whatever place 4 is, 0 or 1 can't be asked behind it: so it comes last of the three
        Due.is("place 4 last", 200, x.act());
        x = with(2, 2, 2, 2, 2);
        x.bar(0, 4, 0, 0, 0);
        x.bar(0, 4, 1, 0, 0);
        x.open(0);
        Due.is("five questions", 5, x.worst());
        Due.is("place 0 not first: behind its 0, place 4 can't be asked", 210, x.act());
        x = with(4, 4, 4, 4, 4);
        for (int v = 0; v < 4; v++) {
            x.bar(0, 4, v, 0, 0);
        }
        x.open(0);
        Due.is("five questions, of all VALUES there can be", 5, x.worst());
        Due.is("place 0 not first: behind its 0, place 4 can't be asked", 210, x.act());
    }

    private static void askLeastPlace() {
        TalkKeeper x = with(3, 3, 3, 3, 3);
        open(x, 3, 3, 3, 3, 3);
        Due.is("all alike", 200, x.act());
        Talks.hear(x, 0);
        Talks.hear(x, 20);
        Due.is("the least of 1, 3, 4", 210, x.act());
        Talks.hear(x, 10);
        Due.is("the least of 3, 4", 230, x.act());
    }

    // ---- WORST

    private static void atMost() {
        TalkKeeper x = with(4, 2, 2, 2);
        x.need(0, 0, 3, 1);
        x.need(0, 0, 3, 2);
        x.need(0, 1, 0, 3);
        open(x, 4, 2, 2, 2);
        Due.is("the answer 3, then 0, needs most", 4, x.worst());
        Talks.hear(x, 2);
        Due.is("another answer needs nothing more", 0, x.worst());
        Talks.hear(x, 3);
        Due.is("that answer needs three", 3, x.worst());
        Talks.hear(x, 11);
        Due.is("one less", 1, x.worst());
    }

    private static void bestOrder() {
        TalkKeeper x = with(2, 2, 2, 2);
        x.need(0, 0, 1, 1);
        x.need(0, 1, 1, 2);
        x.bar(0, 0, 1, 3, 1);
        x.bar(0, 0, 1, 3, 0);
        x.open(0);
        // place 3 first: then place 0 can't be 1, so that 1 and 2 are never WANTED
        Due.is("two, by the best order", 2, x.worst());
        Due.is("place 3", 230, x.act());
    }

    private static void answersBreakNoBar() {
        TalkKeeper x = with(2, 2);
        x.need(0, 0, 1, 1);
        open(x, 2, 2);
        Due.is("without a BAR", 2, x.worst());
        x = with(2, 2, 2);
        x.need(0, 0, 1, 1);
        x.bar(0, 0, 1, 2, 1);
        open(x, 2, 2, 2);
        Talks.hear(x, 20);
        Due.is("the BAR is not at hand", 2, x.worst());
        Talks.hear(x, DOUBT, 21);
        Due.is("nor with a PLACE in doubt", 3, x.worst());
        Talks.hear(x, 21);
        Due.is("the BAR rules the answer 1 out", 1, x.worst());
    }

    private static void workedBarAnswers() {
        TalkKeeper x = with(2, 2, 2);
        x.worked(0, 2, 0, 1);
        x.need(0, 1, 1, 2);
        // with place 0 SURE of 1, place 1 can't be 1: the sum would be 0
        x.bar(0, 3, 0, 0, 1);
        open(x, 2, 2, 2);
        Talks.hear(x, 0);
        Due.is("the BAR is not at hand", 2, x.worst());
        Talks.hear(x, 1);
        Due.is("the sum bars the answer 1", 1, x.worst());
        x = with(2, 2, 2);
        x.worked(0, 2, 0, 1);
        x.need(0, 3, 0, 2);
        open(x, 2, 2, 2);
        Due.is("a NEED of a WORKED one", 3, x.worst());
        Talks.hear(x, 1);
        Talks.hear(x, 10);
        Due.is("the sum is 1", 0, x.worst());
        Talks.hear(x, 11);
        Due.is("the sum is 0", 1, x.worst());
    }

    private static void anyValueInDoubt() {
        TalkKeeper x = with(3, 2);
        x.need(0, 0, 2, 1);
        open(x, 3, 2);
        Talks.hear(x, DOUBT, 0);
        Talks.place(x, "in doubt", 0, 0, 1, 0);
        Due.is("the answer may be 2 all the same", 2, x.worst());
    }

    private static void zero() {
        TalkKeeper x = with();
        x.open(0);
        Due.is("no PLACES", 0, x.worst());
        x = with(2, 2);
        x.need(0, 0, 1, 1);
        open(x, 2, 2);
        Talks.hear(x, 0);
        Due.is("what is not SURE is not WANTED", 0, x.worst());
        Talks.hear(x, 1);
        Talks.hear(x, 11);
        Due.is("all are SURE", 0, x.worst());
    }

    private static void oneMore() {
        TalkKeeper x = with(4, 4, 4, 4, 4);
        open(x, 4, 4, 4, 4, 4);
        for (int p = 0; p < 5; p++) {
            Due.is("so many PLACES", 5 - p, x.worst());
            Talks.hear(x, 13 * p % 4 + 10 * p);
        }
        Due.is("none is left", 0, x.worst());
        Talks.hear(x, DOUBT, 23);
        Due.is("one in doubt", 1, x.worst());
    }

    private static void cannotBeAsked() {
        TalkKeeper x = with(2, 2);
        x.bar(0, 0, 0, 1, 0);
        x.bar(0, 0, 1, 1, 0);
        open(x, 2, 2);
        Talks.hear(x, 10);
        Due.is("place 0 has no VALUE left", 100, x.worst());
        Talks.hear(x, 11);
        Due.is("now it has", 1, x.worst());
        x = with(2, 2, 2);
        x.bar(0, 0, 0, 1, 1);
        x.bar(0, 0, 1, 1, 1);
        x.bar(0, 0, 0, 2, 1);
        open(x, 2, 2, 2);
        Talks.hear(x, 21);
        Due.is("one VALUE is left: it can be asked", 2, x.worst());
        Due.is("and is, ahead of the one that bars it", 200, x.act());
    }

    private static void noneCanBeAsked() {
        TalkKeeper x = with(4, 2);
        for (int v = 0; v < 4; v++) {
            x.bar(0, 0, v, 1, 1);
        }
        open(x, 4, 2);
        Talks.hear(x, 11);
        Due.is("all four VALUES are barred", 100, x.worst());
        Due.is("ASK all the same", 200, x.act());
        x = with(4, 2);
        for (int v = 0; v < 3; v++) {
            x.bar(0, 0, v, 1, 1);
        }
        open(x, 4, 2);
        Talks.hear(x, 11);
        Due.is("three are", 1, x.worst());
    }

    private static void neverMore() {
        TalkKeeper x = with(2, 2, 2, 2, 2);
        for (int v = 0; v < 2; v++) {
            x.bar(0, 0, v, 1, 0);
            x.bar(0, 0, v, 1, 1);
        }
        x.open(0);
        Due.is("questions ahead of the one that can't be asked", 100, x.worst());
        Due.is("all are alike", 200, x.act());
    }

    // ---- promises

    private static void numbers() {
        TalkKeeper x = with(4, 4, 4, 4, 4);
        open(x, 4, 4, 4, 4, 4);
        for (int p = 0; p < 5; p++) {
            Due.is("ASK", 200 + 10 * p, x.act());
            Talks.hear(x, 10 * p + 3);
        }
        Due.is("END", 0, x.act());
        x.close();
        x.open(0);
        Talks.hear(x, DOUBT, 43);
        Due.is("CONFIRM the greatest PLACE and VALUE", 143, x.act());
        Talks.hear(x, DOUBT, 0);
        Due.is("CONFIRM the least", 100, x.act());
    }

    private static void actState() {
        TalkKeeper x = new TalkKeeper();
        Due.is("new", STATE, x.act());
        Talks.form(x, 2);
        Due.is("not opened", STATE, x.act());
        x.open(0);
        Due.is("opened", 200, x.act());
        x.close();
        Due.is("closed", STATE, x.act());
    }

    private static void worstOfUppermost() {
        TalkKeeper x = with(2);
        Talks.form(x, 2, 2);
        Talks.form(x);
        x.open(0);
        Due.is("form 0", 1, x.worst());
        x.open(1);
        Due.is("form 1", 2, x.worst());
        x.open(2);
        Due.is("form 2", 0, x.worst());
        x.close();
        Due.is("form 1 again", 2, x.worst());
        x.close();
        Due.is("form 0 again", 1, x.worst());
    }

    private static void worstState() {
        TalkKeeper x = new TalkKeeper();
        Due.is("new", STATE, x.worst());
        Talks.form(x, 2);
        Due.is("not opened", STATE, x.worst());
        x.open(0);
        x.close();
        Due.is("closed", STATE, x.worst());
    }
}
