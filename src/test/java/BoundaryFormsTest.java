/** The boundary cases of forms, places and rules: part 1 of the terms, and promises 1 to 6. */
final class BoundaryFormsTest {
    private static final int NONE = Talks.NONE, BAD = Talks.BAD, STATE = Talks.STATE, FULL = Talks.FULL;

    public static void main(String[] args) {
        terms();
        rules();
        promises();
        Sentence.end();
    }

    private static void terms() {
        Sentence.holds("FORMS are numbered from 0 on, 3 at most", BoundaryFormsTest::formsAreThree);
        Sentence.holds("PLACES, numbered from 0 on, 5 at most", BoundaryFormsTest::placesAreFive);
        Sentence.holds("each [FORM] with PLACES", BoundaryFormsTest::eachFormHasFive);
        Sentence.holds("An object is used for at most 512 calls", BoundaryFormsTest::the512thCall);
        Sentence.holds("A PLACE has n VALUES (n 2 .. 4)", BoundaryFormsTest::sizes);
        Sentence.holds("VALUES, 0 .. n - 1", BoundaryFormsTest::valuesEnd);
        Sentence.holds("a KIND: 0 PLAIN; 1 WORKED; 2 SECRET", BoundaryFormsTest::kinds);
        Sentence.holds("out of two PLACES of the FORM with lesser numbers", BoundaryFormsTest::partsAreLesser);
        Sentence.holds("out of two PLACES: any two", BoundaryFormsTest::anyTwoParts);
        Sentence.holds("that are not WORKED", BoundaryFormsTest::partsAreNotWorked);
        Sentence.holds("(they may be one)", BoundaryFormsTest::partsMayBeOne);
        Sentence.holds("its VALUE is the sum of theirs modulo n", BoundaryFormsTest::sumWrapsAround);
        Sentence.holds("if both are SURE, else it is EMPTY", BoundaryFormsTest::elseEmpty);
        Sentence.holds("A PLACE is EMPTY, or has a set of VALUES and is SURE (of one) or not", BoundaryFormsTest::states);
    }

    private static void rules() {
        Sentence.holds("RULES of a FORM, numbered from 0 on, 6 at most", BoundaryFormsTest::rulesAreSix);
        Sentence.holds("RULES of a FORM: each has its own", BoundaryFormsTest::eachFormHasSixRules);
        Sentence.holds("BAR: while PLACE b (another one) is w", BoundaryFormsTest::barOfAnother);
        Sentence.holds("NEED: PLACE b, not WORKED", BoundaryFormsTest::needOfWorked);
        Sentence.holds("NEED: a (another one)", BoundaryFormsTest::needOfAnother);
        Sentence.holds("WANTED only while a is SURE to be v", BoundaryFormsTest::wantedWhileSure);
        Sentence.holds("(of several NEEDS of b: if one is so)", BoundaryFormsTest::oneOfSeveralNeeds);
        Sentence.holds("PLACES without a NEED are WANTED; WORKED ones never", BoundaryFormsTest::wantedWithoutNeed);
    }

    private static void promises() {
        Sentence.holds("1: No FORMS, no ROWS, an empty TALK", BoundaryFormsTest::newObject);
        Sentence.holds("2: A FORM more, without PLACES", BoundaryFormsTest::newFormIsEmpty);
        Sentence.holds("2: FULL", BoundaryFormsTest::formIsFull);
        Sentence.holds("3: A PLACE more, EMPTY", BoundaryFormsTest::newPlaceIsEmpty);
        Sentence.holds("3: NONE", BoundaryFormsTest::placeNone);
        Sentence.holds("3: BAD: kind not 0, 2", BoundaryFormsTest::placeBadKind);
        Sentence.holds("3: BAD: n", BoundaryFormsTest::placeBadSize);
        Sentence.holds("3: STATE: the FORM is in THE TALK", BoundaryFormsTest::placeState);
        Sentence.holds("3: FULL", BoundaryFormsTest::placeFull);
        Sentence.holds("4: NONE", BoundaryFormsTest::workedNone);
        Sentence.holds("4: BAD: n", BoundaryFormsTest::workedBadSize);
        Sentence.holds("4: BAD: a or b is WORKED", BoundaryFormsTest::workedBadParts);
        Sentence.holds("4: STATE", BoundaryFormsTest::workedState);
        Sentence.holds("4: FULL", BoundaryFormsTest::workedFull);
        Sentence.holds("5: NONE", BoundaryFormsTest::barNone);
        Sentence.holds("5: BAD: a is b", BoundaryFormsTest::barBad);
        Sentence.holds("5: STATE", BoundaryFormsTest::barState);
        Sentence.holds("5: FULL", BoundaryFormsTest::barFull);
        Sentence.holds("6: NONE", BoundaryFormsTest::needNone);
        Sentence.holds("6: BAD: a is b, b is WORKED", BoundaryFormsTest::needBad);
        Sentence.holds("6: STATE", BoundaryFormsTest::needState);
        Sentence.holds("6: FULL", BoundaryFormsTest::needFull);
    }

    private static TalkKeeper with(int... sizes) {
        TalkKeeper x = new TalkKeeper();
        Talks.form(x, sizes);
        return x;
    }

    // ---- terms

    private static void formsAreThree() {
        TalkKeeper x = new TalkKeeper();
        Due.is("the first", 0, x.form());
        Due.is("the second", 1, x.form());
        Due.is("the third", 2, x.form());
        Due.is("the fourth", FULL, x.form());
        Due.is("all can be used: 2", 0, x.place(2, 0, 2));
        Due.is("there is no form 3", NONE, x.place(3, 0, 2));
        Due.is("there is no form -1", NONE, x.place(-1, 0, 2));
    }

    private static void placesAreFive() {
        TalkKeeper x = with();
        Due.is("plain", 0, x.place(0, 0, 2));
        Due.is("secret", 1, x.place(0, 2, 2));
        Due.is("worked", 2, x.worked(0, 2, 0, 1));
        Due.is("worked", 3, x.worked(0, 2, 0, 0));
        Due.is("the fifth", 4, x.place(0, 0, 2));
        Due.is("a sixth, plain", FULL, x.place(0, 0, 2));
        Due.is("a sixth, secret", FULL, x.place(0, 2, 2));
        Due.is("a sixth, worked", FULL, x.worked(0, 2, 0, 1));
        Due.is("the fifth is there", 2, x.about(0, 4, 4));
        Due.is("a sixth is not", NONE, x.about(0, 5, 4));
    }

    private static void eachFormHasFive() {
        TalkKeeper x = new TalkKeeper();
        for (int f = 0; f < 3; f++) {
            Talks.form(x, 2, 3, 4, 3, 2);
        }
        for (int f = 0; f < 3; f++) {
            Due.is("a sixth in form " + f, FULL, x.place(f, 0, 2));
            for (int p = 0; p < 5; p++) {
                Due.is("n", new int[] {2, 3, 4, 3, 2}[p], x.about(f, p, 4));
            }
        }
    }

    private static void the512thCall() {
        TalkKeeper x = new TalkKeeper();
        int calls = 0;
        x.form();
        x.place(0, 0, 4);
        x.item(1, 0);
        x.row(0, 1, 0);
        x.open(0);
        calls += 5;
        for (int v = 0; v < 4; v++) {
            x.word(0, 0, v, v);
            calls++;
        }
        while (calls + 3 < 512) {
            Due.is("say", 1, x.say(calls % 4));
            Due.is("hear", 1, x.hear());
            Due.is("about", 1 << calls % 4, x.about(0, 0, 0));
            calls += 3;
        }
        Due.is("calls so far", 510, (long) calls);
        Due.is("call 511", 10, x.count(3));
        Due.is("call 512", 9, x.back());
    }

    private static void sizes() {
        TalkKeeper x = with();
        Due.is("n 1", BAD, x.place(0, 0, 1));
        Due.is("n 5", BAD, x.place(0, 0, 5));
        Due.is("n 2", 0, x.place(0, 0, 2));
        Due.is("n 3", 1, x.place(0, 2, 3));
        Due.is("n 4", 2, x.place(0, 0, 4));
        Due.is("worked, n 1", BAD, x.worked(0, 1, 0, 1));
        Due.is("worked, n 5", BAD, x.worked(0, 5, 0, 1));
        Due.is("worked, n 2", 3, x.worked(0, 2, 0, 1));
        Due.is("worked, n 4", 4, x.worked(0, 4, 0, 1));
    }

    private static void valuesEnd() {
        for (int n = 2; n <= 4; n++) {
            TalkKeeper x = with(n, 2);
            Due.is("bar of value n", NONE, x.bar(0, 0, n, 1, 0));
            Due.is("bar of value -1", NONE, x.bar(0, 0, -1, 1, 0));
            Due.is("need of value n", NONE, x.need(0, 0, n, 1));
            Due.is("word for value n", NONE, x.word(0, 0, n, 0));
            Due.is("said, value n", NONE, x.said(0, 0, n));
            Due.is("word for n - 1", 0, x.word(0, 0, n - 1, 0));
            Due.is("said, n - 1", 0, x.said(0, 0, n - 1));
            Due.is("word for 0", 0, x.word(0, 0, 0, 1));
            Due.is("bar of n - 1", 0, x.bar(0, 0, n - 1, 1, 0));
            Due.is("bar of n - 1, the other way", 1, x.bar(0, 1, 0, 0, n - 1));
            Due.is("need of n - 1", 2, x.need(0, 0, n - 1, 1));
        }
    }

    private static void kinds() {
        TalkKeeper x = with();
        Due.is("place of kind 1", BAD, x.place(0, 1, 2));
        Due.is("place of kind 3", BAD, x.place(0, 3, 2));
        Due.is("place of kind -1", BAD, x.place(0, -1, 2));
        x.place(0, 0, 2);
        x.place(0, 2, 2);
        x.worked(0, 2, 0, 1);
        Due.is("PLAIN", 0, x.about(0, 0, 3));
        Due.is("SECRET", 2, x.about(0, 1, 3));
        Due.is("WORKED", 1, x.about(0, 2, 3));
    }

    private static void partsAreLesser() {
        TalkKeeper x = with(2, 2);
        Due.is("its own number is none yet, a", NONE, x.worked(0, 2, 2, 0));
        Due.is("its own number is none yet, b", NONE, x.worked(0, 2, 0, 2));
        Due.is("a greater number", NONE, x.worked(0, 2, 4, 1));
        Due.is("the greatest lesser one", 2, x.worked(0, 2, 1, 1));
        x = with();
        Due.is("a form without places has no parts", NONE, x.worked(0, 2, 0, 0));
    }

    private static void anyTwoParts() {
        for (int a = 0; a < 4; a++) {
            for (int b = 0; b < 4; b++) {
                TalkKeeper x = with(4, 4, 4, 4);
                Due.is("worked", 4, x.worked(0, 4, a, b));
                Talks.words(x, 0, 0, 4, 4, 4, 4);
                Talks.row(x, 0, 1, 0, 100, 101, 102, 103);
                x.open(0);
                int[] values = {1, 3, 2, 0};
                Talks.hear(x, values[0], 10 + values[1], 20 + values[2], 30 + values[3]);
                Talks.place(x, "out of " + a + " and " + b, 0, 4, 1 << (values[a] + values[b]) % 4, 1);
            }
        }
    }

    private static void partsAreNotWorked() {
        TalkKeeper x = with(2);
        Due.is("worked", 1, x.worked(0, 2, 0, 0));
        Due.is("a is WORKED", BAD, x.worked(0, 2, 1, 0));
        Due.is("b is WORKED", BAD, x.worked(0, 2, 0, 1));
        Due.is("both are", BAD, x.worked(0, 2, 1, 1));
        Due.is("none is", 2, x.worked(0, 2, 0, 0));
    }

    private static void partsMayBeOne() {
        TalkKeeper x = with(4);
        Due.is("n 4", 1, x.worked(0, 4, 0, 0));
        Due.is("n 3", 2, x.worked(0, 3, 0, 0));
        Due.is("n 2", 3, x.worked(0, 2, 0, 0));
        Talks.words(x, 0, 0, 4);
        Talks.row(x, 0, 1, 0, 100);
        x.open(0);
        for (int v = 0; v < 4; v++) {
            Talks.hear(x, v);
            for (int p = 1; p < 4; p++) {
                Talks.place(x, "twice " + v, 0, p, 1 << 2 * v % (5 - p), 1);
            }
        }
    }

    private static void sumWrapsAround() {
        TalkKeeper x = with(4, 4);
        for (int n = 2; n <= 4; n++) {
            Due.is("worked", n, x.worked(0, n, 0, 1));
        }
        Talks.words(x, 0, 0, 4, 4);
        Talks.row(x, 0, 1, 0, 100, 101);
        x.open(0);
        for (int v = 0; v < 4; v++) {
            for (int w = 0; w < 4; w++) {
                Talks.hear(x, v, 10 + w);
                for (int n = 2; n <= 4; n++) {
                    Talks.place(x, v + " and " + w + " modulo " + n, 0, n, 1 << (v + w) % n, 1);
                }
            }
        }
    }

    private static void elseEmpty() {
        TalkKeeper x = with(2, 2);
        x.worked(0, 2, 0, 1);
        Talks.words(x, 0, 0, 2, 2);
        Talks.row(x, 0, 1, 0, 30, 100);
        Talks.row(x, 0, 1, 0, 30, 101);
        Talks.row(x, 0, 6, 0, 100);
        Talks.row(x, 0, 6, 0, 101);
        Talks.place(x, "not open", 0, 2, 0, 0);
        x.open(0);
        Talks.place(x, "both EMPTY", 0, 2, 0, 0);
        Talks.hear(x, 30, 1);
        Talks.place(x, "a SURE, b EMPTY", 0, 2, 0, 0);
        Talks.hear(x, 11);
        Talks.place(x, "b in doubt", 0, 1, 2, 0);
        Talks.place(x, "a SURE, b in doubt", 0, 2, 0, 0);
        Talks.hear(x, 30, 11);
        Talks.place(x, "both SURE", 0, 2, 1, 1);
        Talks.hear(x, 1);
        Talks.place(x, "a in doubt, of one value", 0, 0, 2, 0);
        Talks.place(x, "a in doubt, b SURE", 0, 2, 0, 0);
        x.close();
        x.open(0);
        Talks.hear(x, 30, 11);
        Talks.place(x, "a EMPTY, b SURE", 0, 2, 0, 0);
    }

    private static void states() {
        TalkKeeper x = with(4);
        Talks.words(x, 0, 0, 4);
        Talks.row(x, 0, 6, 0, 100);
        Talks.row(x, 0, 1, 0, 30, 100);
        x.open(0);
        Talks.place(x, "EMPTY is not SURE", 0, 0, 0, 0);
        Talks.hear(x, 3);
        Talks.place(x, "a set of one, not SURE", 0, 0, 8, 0);
        Talks.hear(x, 0, 1, 2);
        Talks.place(x, "a set of all", 0, 0, 15, 0);
        Talks.hear(x, 30, 3);
        Talks.place(x, "SURE, of one", 0, 0, 8, 1);
    }

    private static void rulesAreSix() {
        TalkKeeper x = with(2, 2);
        Due.is("0", 0, x.bar(0, 0, 0, 1, 0));
        Due.is("1", 1, x.need(0, 0, 0, 1));
        Due.is("2", 2, x.need(0, 0, 0, 1));
        Due.is("3", 3, x.bar(0, 0, 0, 1, 0));
        Due.is("4", 4, x.bar(0, 0, 0, 1, 0));
        Due.is("5", 5, x.need(0, 0, 0, 1));
        Due.is("a seventh, BAR", FULL, x.bar(0, 0, 1, 1, 1));
        Due.is("a seventh, NEED", FULL, x.need(0, 1, 0, 0));
        Due.is("the refused NEED is none", 1, x.about(0, 0, 2));
        x.open(0);
        x = with(2, 2);
        for (int r = 0; r < 5; r++) {
            x.need(0, 0, 1, 1);
        }
        Due.is("the sixth rule", 5, x.need(0, 0, 0, 1));
        Talks.words(x, 0, 0, 2, 2);
        Talks.row(x, 0, 1, 0, 100);
        x.open(0);
        Talks.hear(x, 0);
        Due.is("it holds", 1, x.about(0, 1, 2));
    }

    private static void eachFormHasSixRules() {
        TalkKeeper x = new TalkKeeper();
        for (int f = 0; f < 3; f++) {
            Talks.form(x, 2, 2);
            for (int r = 0; r < 6; r++) {
                Due.is("rule of form " + f, r, x.bar(f, 0, f % 2, 1, r % 2));
            }
            Due.is("a seventh", FULL, x.bar(f, 0, 0, 1, 0));
        }
    }

    private static void barOfAnother() {
        TalkKeeper x = with(3, 3);
        Due.is("itself, another value", BAD, x.bar(0, 1, 0, 1, 2));
        Due.is("itself, the same value", BAD, x.bar(0, 0, 1, 0, 1));
        Due.is("another one", 0, x.bar(0, 1, 0, 0, 0));
        x.worked(0, 3, 0, 1);
        Due.is("a WORKED one itself", BAD, x.bar(0, 2, 0, 2, 0));
        Due.is("a WORKED one and its part", 1, x.bar(0, 2, 0, 1, 0));
    }

    private static void needOfWorked() {
        TalkKeeper x = with(2, 2);
        x.worked(0, 4, 0, 0);
        Due.is("b is WORKED", BAD, x.need(0, 0, 0, 2));
        Due.is("a is WORKED", 0, x.need(0, 2, 2, 1));
        Talks.words(x, 0, 0, 2, 2);
        Talks.row(x, 0, 1, 0, 100);
        x.open(0);
        Due.is("a WORKED one is EMPTY", 0, x.about(0, 1, 2));
        Talks.hear(x, 0);
        Due.is("a WORKED one is 0", 0, x.about(0, 1, 2));
        Talks.hear(x, 1);
        Due.is("a WORKED one is 2", 1, x.about(0, 1, 2));
    }

    private static void needOfAnother() {
        TalkKeeper x = with(2, 2);
        Due.is("0 and 0", BAD, x.need(0, 0, 1, 0));
        Due.is("1 and 1", BAD, x.need(0, 1, 0, 1));
        Due.is("a is greater", 0, x.need(0, 1, 0, 0));
        Due.is("a is lesser", 1, x.need(0, 0, 0, 1));
    }

    private static void wantedWhileSure() {
        TalkKeeper x = with(2, 2);
        x.need(0, 0, 1, 1);
        Talks.words(x, 0, 0, 2, 2);
        Talks.row(x, 0, 6, 0, 100);
        Talks.row(x, 0, 1, 0, 30, 100);
        x.open(0);
        Due.is("a is EMPTY", 0, x.about(0, 1, 2));
        Talks.hear(x, 1);
        Talks.place(x, "a in doubt", 0, 0, 2, 0);
        Due.is("a has v alone, not SURE", 0, x.about(0, 1, 2));
        Talks.hear(x, 30, 1);
        Due.is("a is SURE of v", 1, x.about(0, 1, 2));
        Talks.hear(x, 30, 0);
        Due.is("a is SURE of another", 0, x.about(0, 1, 2));
        Talks.hear(x, 1);
        Talks.place(x, "a in doubt again", 0, 0, 3, 0);
        Due.is("v is one of two", 0, x.about(0, 1, 2));
    }

    private static void oneOfSeveralNeeds() {
        TalkKeeper x = with(3, 2, 2);
        x.need(0, 0, 1, 2);
        x.need(0, 0, 2, 2);
        x.need(0, 1, 1, 2);
        Talks.words(x, 0, 0, 3, 2, 2);
        Talks.row(x, 0, 1, 0, 100, 101);
        x.open(0);
        int[][] due = {{0, 0, 0}, {1, 0, 1}, {2, 0, 1}, {0, 1, 1}, {1, 1, 1}};
        for (int[] one : due) {
            Talks.hear(x, one[0], 10 + one[1]);
            Due.is("a " + one[0] + ", the other " + one[1], one[2], x.about(0, 2, 2));
        }
    }

    private static void wantedWithoutNeed() {
        TalkKeeper x = with(2);
        x.place(0, 2, 2);
        x.worked(0, 2, 0, 1);
        x.bar(0, 0, 0, 1, 0);
        Talks.words(x, 0, 0, 2, 2);
        Talks.row(x, 0, 1, 0, 100, 101);
        x.open(0);
        for (int time = 0; time < 2; time++) {
            Due.is("PLAIN", 1, x.about(0, 0, 2));
            Due.is("SECRET", 1, x.about(0, 1, 2));
            Due.is("WORKED", 0, x.about(0, 2, 2));
            Talks.hear(x, 1, 11);
            Due.is("all are SURE", 1, x.about(0, 2, 1));
        }
    }

    // ---- promises

    private static void newObject() {
        TalkKeeper x = new TalkKeeper();
        Due.is("forms in the talk", 0, x.count(0));
        Due.is("the uppermost", NONE, x.count(1));
        Due.is("handed", 0, x.count(2));
        Due.is("lines to take back", 0, x.count(3));
        Due.is("words that wait", 0, x.count(4));
        Due.is("items that wait", 0, x.count(5));
        Due.is("forms", 0, x.count(6));
        Due.is("rows", 0, x.count(7));
        Due.is("no form 0", NONE, x.open(0));
        Due.is("nothing to close", STATE, x.close());
    }

    private static void newFormIsEmpty() {
        TalkKeeper x = with(2, 2);
        Due.is("form 1", 1, x.form());
        Due.is("no place", NONE, x.about(1, 0, 0));
        Due.is("opened as it is", 1, x.open(1));
        Due.is("nothing to ask", 0, x.act());
        Due.is("nothing to need", 0, x.worst());
        Due.is("its own rule 0 comes", 0, x.bar(0, 0, 0, 1, 0));
    }

    private static void formIsFull() {
        TalkKeeper x = new TalkKeeper();
        for (int f = 0; f < 3; f++) {
            x.form();
            x.open(f);
        }
        Due.is("a fourth", FULL, x.form());
        Due.is("once more", FULL, x.form());
        Due.is("three", 3, x.count(6));
        x.close();
        Due.is("a closed one is there still", FULL, x.form());
    }

    private static void newPlaceIsEmpty() {
        TalkKeeper x = with(2);
        Talks.words(x, 0, 0, 2);
        Talks.row(x, 0, 1, 0, 100);
        x.open(0);
        Talks.hear(x, 1);
        x.close();
        Due.is("a place more", 1, x.place(0, 0, 4));
        Talks.place(x, "new", 0, 1, 0, 0);
        Due.is("a secret one more", 2, x.place(0, 2, 4));
        Talks.place(x, "new", 0, 2, 0, 0);
        Talks.place(x, "the old one stays", 0, 0, 2, 1);
    }

    private static void placeNone() {
        TalkKeeper x = new TalkKeeper();
        Due.is("no form at all", NONE, x.place(0, 0, 2));
        x.form();
        Due.is("form 1", NONE, x.place(1, 0, 2));
        for (int wild : Talks.WILD) {
            Due.is("form " + wild, NONE, x.place(wild, 0, 2));
        }
    }

    private static void placeBadKind() {
        TalkKeeper x = with();
        for (int wild : Talks.WILD) {
            Due.is("kind " + wild, BAD, x.place(0, wild, 2));
        }
        Due.is("kind 1", BAD, x.place(0, 1, 2));
        Due.is("kind 3", BAD, x.place(0, 3, 2));
        Due.is("kind 0", 0, x.place(0, 0, 2));
        Due.is("kind 2", 1, x.place(0, 2, 2));
    }

    private static void placeBadSize() {
        TalkKeeper x = with();
        for (int kind = 0; kind <= 2; kind += 2) {
            for (int wild : Talks.WILD) {
                Due.is("n " + wild, BAD, x.place(0, kind, wild));
            }
            Due.is("n 0", BAD, x.place(0, kind, 0));
            Due.is("n 1", BAD, x.place(0, kind, 1));
            Due.is("n 5", BAD, x.place(0, kind, 5));
        }
        Due.is("n 2", 0, x.place(0, 2, 2));
        Due.is("n 4", 1, x.place(0, 2, 4));
    }

    private static void placeState() {
        TalkKeeper x = with(2);
        Talks.form(x, 2);
        x.open(0);
        Due.is("uppermost", STATE, x.place(0, 0, 2));
        Due.is("another form", 1, x.place(1, 0, 2));
        x.open(1);
        Due.is("below", STATE, x.place(0, 0, 2));
        Due.is("above", STATE, x.place(1, 0, 2));
        x.close();
        Due.is("closed", 2, x.place(1, 0, 2));
        Due.is("still in it", STATE, x.place(0, 2, 2));
        x.close();
        Due.is("closed", 1, x.place(0, 2, 2));
    }

    private static void placeFull() {
        TalkKeeper x = with(2, 2, 2, 2);
        Due.is("the fifth", 4, x.place(0, 0, 2));
        Due.is("a sixth", FULL, x.place(0, 0, 2));
        Due.is("a sixth, secret", FULL, x.place(0, 2, 4));
    }

    private static void workedNone() {
        TalkKeeper x = new TalkKeeper();
        Due.is("no form at all", NONE, x.worked(0, 2, 0, 0));
        Talks.form(x, 2, 2);
        Talks.form(x, 2, 2, 2);
        for (int wild : Talks.WILD) {
            Due.is("form " + wild, NONE, x.worked(wild, 2, 0, 1));
            Due.is("a " + wild, NONE, x.worked(0, 2, wild, 1));
            Due.is("b " + wild, NONE, x.worked(0, 2, 0, wild));
        }
        Due.is("form 2", NONE, x.worked(2, 2, 0, 1));
        Due.is("a is of another form", NONE, x.worked(0, 2, 2, 1));
        Due.is("b is of another form", NONE, x.worked(0, 2, 1, 2));
        Due.is("there both are", 3, x.worked(1, 2, 2, 2));
    }

    private static void workedBadSize() {
        TalkKeeper x = with(2, 2);
        for (int wild : Talks.WILD) {
            Due.is("n " + wild, BAD, x.worked(0, wild, 0, 1));
        }
        Due.is("n 0", BAD, x.worked(0, 0, 0, 1));
        Due.is("n 1", BAD, x.worked(0, 1, 0, 1));
        Due.is("n 5", BAD, x.worked(0, 5, 0, 1));
        Due.is("n 2", 2, x.worked(0, 2, 0, 1));
        Due.is("n 4", 3, x.worked(0, 4, 0, 1));
    }

    private static void workedBadParts() {
        TalkKeeper x = with(2);
        x.place(0, 2, 2);
        x.worked(0, 2, 0, 1);
        Due.is("a", BAD, x.worked(0, 2, 2, 1));
        Due.is("b", BAD, x.worked(0, 2, 1, 2));
        Due.is("a SECRET one may be", 3, x.worked(0, 2, 1, 1));
    }

    private static void workedState() {
        TalkKeeper x = with(2);
        Talks.form(x, 2);
        x.open(0);
        x.open(1);
        Due.is("below", STATE, x.worked(0, 2, 0, 0));
        Due.is("uppermost", STATE, x.worked(1, 2, 0, 0));
        x.close();
        Due.is("closed", 1, x.worked(1, 2, 0, 0));
    }

    private static void workedFull() {
        TalkKeeper x = with(2, 2, 2, 2);
        Due.is("the fifth", 4, x.worked(0, 2, 0, 3));
        Due.is("a sixth", FULL, x.worked(0, 2, 0, 3));
    }

    private static void barNone() {
        TalkKeeper x = new TalkKeeper();
        Due.is("no form at all", NONE, x.bar(0, 0, 0, 1, 0));
        Talks.form(x, 2, 4);
        Talks.form(x, 2, 2, 2);
        for (int wild : Talks.WILD) {
            Due.is("form " + wild, NONE, x.bar(wild, 0, 0, 1, 0));
            Due.is("a " + wild, NONE, x.bar(0, wild, 0, 1, 0));
            Due.is("v " + wild, NONE, x.bar(0, 0, wild, 1, 0));
            Due.is("b " + wild, NONE, x.bar(0, 0, 0, wild, 0));
            Due.is("w " + wild, NONE, x.bar(0, 0, 0, 1, wild));
        }
        Due.is("a is one too great", NONE, x.bar(0, 2, 0, 1, 0));
        Due.is("b is one too great", NONE, x.bar(0, 0, 0, 2, 0));
        Due.is("v is a value of b alone", NONE, x.bar(0, 0, 2, 1, 0));
        Due.is("w is one too great", NONE, x.bar(0, 0, 0, 1, 4));
        Due.is("w is a value of b alone", NONE, x.bar(0, 1, 0, 0, 2));
        Due.is("all are there", 0, x.bar(0, 0, 1, 1, 3));
    }

    private static void barBad() {
        TalkKeeper x = with(2, 2, 2, 2, 2);
        for (int p = 0; p < 5; p++) {
            Due.is("place " + p, BAD, x.bar(0, p, 0, p, 1));
        }
        Due.is("another", 0, x.bar(0, 4, 0, 0, 1));
    }

    private static void barState() {
        TalkKeeper x = with(2, 2);
        Talks.form(x, 2, 2);
        x.open(0);
        Due.is("another form", 0, x.bar(1, 0, 0, 1, 0));
        x.open(1);
        Due.is("below", STATE, x.bar(0, 0, 0, 1, 0));
        Due.is("uppermost", STATE, x.bar(1, 0, 0, 1, 0));
        x.close();
        Due.is("closed", 1, x.bar(1, 0, 0, 1, 0));
    }

    private static void barFull() {
        TalkKeeper x = with(2, 2);
        for (int r = 0; r < 6; r++) {
            Due.is("bar", r, x.bar(0, 0, 0, 1, 0));
        }
        Due.is("a seventh", FULL, x.bar(0, 0, 0, 1, 0));
    }

    private static void needNone() {
        TalkKeeper x = new TalkKeeper();
        Due.is("no form at all", NONE, x.need(0, 0, 0, 1));
        Talks.form(x, 2, 4);
        Talks.form(x, 2, 2, 2);
        for (int wild : Talks.WILD) {
            Due.is("form " + wild, NONE, x.need(wild, 0, 0, 1));
            Due.is("a " + wild, NONE, x.need(0, wild, 0, 1));
            Due.is("v " + wild, NONE, x.need(0, 0, wild, 1));
            Due.is("b " + wild, NONE, x.need(0, 0, 0, wild));
        }
        Due.is("a is one too great", NONE, x.need(0, 2, 0, 1));
        Due.is("b is one too great", NONE, x.need(0, 0, 0, 2));
        Due.is("v is a value of b alone", NONE, x.need(0, 0, 2, 1));
        Due.is("v is one too great", NONE, x.need(0, 1, 4, 0));
        Due.is("all are there", 0, x.need(0, 1, 3, 0));
    }

    private static void needBad() {
        TalkKeeper x = with(2, 2, 2, 2);
        x.worked(0, 2, 0, 1);
        for (int p = 0; p < 4; p++) {
            Due.is("a is b, place " + p, BAD, x.need(0, p, 0, p));
            Due.is("b is WORKED", BAD, x.need(0, p, 0, 4));
        }
        Due.is("both", BAD, x.need(0, 4, 0, 4));
        Due.is("neither", 0, x.need(0, 4, 0, 3));
    }

    private static void needState() {
        TalkKeeper x = with(2, 2);
        Talks.form(x, 2, 2);
        x.open(0);
        Due.is("another form", 0, x.need(1, 0, 0, 1));
        x.open(1);
        Due.is("below", STATE, x.need(0, 0, 0, 1));
        Due.is("uppermost", STATE, x.need(1, 0, 0, 1));
        Due.is("it came not", 1, x.about(0, 1, 2));
        x.close();
        Due.is("closed", 1, x.need(1, 0, 0, 1));
    }

    private static void needFull() {
        TalkKeeper x = with(2, 2);
        for (int r = 0; r < 6; r++) {
            Due.is("need", r, x.need(0, 0, 0, 1));
        }
        Due.is("a seventh", FULL, x.need(0, 0, 0, 1));
    }
}
