/** The boundary cases of readings, doubts and bars: part 2 of the terms, and promises 13 and 19. */
final class BoundaryReadingTest {
    private static final int NONE = Talks.NONE, STATE = Talks.STATE;

    public static void main(String[] args) {
        readings();
        places();
        bars();
        promises();
        Sentence.end();
    }

    private static void readings() {
        Sentence.holds("A READING (for the FORM that is spoken of)", BoundaryReadingTest::formSpokenOf);
        Sentence.holds("cuts it into pieces", BoundaryReadingTest::pieces);
        Sentence.holds("a ROW of the FORM with as many ITEMS", BoundaryReadingTest::asManyItems);
        Sentence.holds("that fit one by one", BoundaryReadingTest::eachItemFits);
        Sentence.holds("or is one WORD, passed over, at 6", BoundaryReadingTest::passedOverAtSix);
        Sentence.holds("LEAST are those of which the COSTS together are least", BoundaryReadingTest::leastTogether);
        Sentence.holds("A LINE is HEARD if some LEAST READING uses a ROW", BoundaryReadingTest::heardIfSome);
    }

    private static void places() {
        Sentence.holds("filled with what the last ITEM of it (in the LINE) said", BoundaryReadingTest::lastItem);
        Sentence.holds("the last ITEM of it, in some LEAST READINGS a later one", BoundaryReadingTest::lastItemInSome);
        Sentence.holds("For each PLACE, not WORKED", BoundaryReadingTest::notWorked);
        Sentence.holds("if none does, it stays", BoundaryReadingTest::stays);
        Sentence.holds("If all fill it with one, it is SURE of that", BoundaryReadingTest::allWithOne);
        Sentence.holds("Else its set becomes G", BoundaryReadingTest::becomesG);
        Sentence.holds("if some LEAST READING does not fill it, what it had, too", BoundaryReadingTest::whatItHad);
        Sentence.holds("it is not SURE (also with one)", BoundaryReadingTest::notSureWithOne);
    }

    private static void bars() {
        Sentence.holds("PLACE by PLACE, from 0 on", BoundaryReadingTest::placeByPlace);
        Sentence.holds("both its PLACES are SURE, of v and w", BoundaryReadingTest::bothSure);
        Sentence.holds("WORKED ones, worked anew, count", BoundaryReadingTest::workedCount);
        Sentence.holds("the PLACE becomes as it was ahead of the LINE", BoundaryReadingTest::asItWas);
        Sentence.holds("the BROKEN RULE is the first BAR that was", BoundaryReadingTest::firstBar);
        Sentence.holds("at the first such PLACE", BoundaryReadingTest::firstPlace);
    }

    private static void promises() {
        Sentence.holds("13: The LINE that waits, which does so no more", BoundaryReadingTest::waitsNoMore);
        Sentence.holds("13: its least COST if it is HEARD", BoundaryReadingTest::costIfHeard);
        Sentence.holds("13: 100 and that if not", BoundaryReadingTest::costIfNot);
        Sentence.holds("13: STATE: no WORD waits", BoundaryReadingTest::noWordWaits);
        Sentence.holds("13: STATE: there is no FORM in THE TALK", BoundaryReadingTest::noFormInTalk);
        Sentence.holds("19: Of the latest LINE that was taken", BoundaryReadingTest::latestLine);
        Sentence.holds("19: 0 its least COST, 1 whether it was HEARD", BoundaryReadingTest::costAndHeard);
        Sentence.holds("19: 2 the LEAST READING that passes over most", BoundaryReadingTest::passesOverMost);
        Sentence.holds("19: 3 how many LEAST READINGS it has", BoundaryReadingTest::howMany);
        Sentence.holds("19: (1000000: so many or more)", BoundaryReadingTest::soManyOrMore);
        Sentence.holds("19: 4 the BROKEN RULE (NONE)", BoundaryReadingTest::brokenRule);
        Sentence.holds("19: NONE", BoundaryReadingTest::heardNone);
        Sentence.holds("19: (0 to 3 are 0, 4 is NONE without a LINE)", BoundaryReadingTest::withoutLine);
    }

    private static TalkKeeper with(int... sizes) {
        TalkKeeper x = new TalkKeeper();
        Talks.form(x, sizes);
        Talks.words(x, 0, 0, sizes);
        return x;
    }

    // ---- readings

    private static void formSpokenOf() {
        TalkKeeper x = with(2);
        Talks.form(x, 2);
        Talks.words(x, 1, 0, 2);
        Talks.row(x, 0, 1, 0, 100);
        x.open(0);
        x.open(1);
        Due.is("the uppermost has no row", 106, Talks.hear(x, 1));
        Talks.place(x, "below", 0, 0, 0, 0);
        x.close();
        Due.is("now it is spoken of", 1, Talks.hear(x, 1));
        Talks.place(x, "spoken of", 0, 0, 2, 1);
        Talks.place(x, "not in the talk", 1, 0, 0, 0);
    }

    private static void pieces() {
        TalkKeeper x = with(2);
        Talks.row(x, 0, 1, 0, 50);
        Talks.row(x, 0, 1, 0, 51, 51, 51, 51);
        x.open(0);
        Due.is("eight pieces", 8, Talks.hear(x, 50, 50, 50, 50, 50, 50, 50, 50));
        Due.is("two pieces of four", 2, Talks.hear(x, 51, 51, 51, 51, 51, 51, 51, 51));
        Due.is("one, four, one, two passed over", 15, Talks.hear(x, 50, 51, 51, 51, 51, 50, 52, 53));
        Due.is("a piece in the middle", 13, Talks.hear(x, 52, 50, 52));
        Due.is("no piece overlaps", 7 + 12, Talks.hear(x, 51, 51, 51, 51, 51, 51, 51));
        Due.is("three passed over, at any end", 4, x.heard(3));
    }

    private static void asManyItems() {
        TalkKeeper x = with(2);
        Talks.row(x, 0, 1, 0, 200, 200, 200, 200);
        x.open(0);
        Due.is("one word", 106, Talks.hear(x, 0));
        Due.is("three words", 118, Talks.hear(x, 0, 0, 0));
        Due.is("four words", 1, Talks.hear(x, 0, 0, 0, 0));
        Due.is("five words", 7, Talks.hear(x, 0, 0, 0, 0, 0));
        Due.is("seven words", 19, Talks.hear(x, 0, 0, 0, 0, 0, 0, 0));
        Due.is("eight words", 2, Talks.hear(x, 0, 0, 0, 0, 0, 0, 0, 0));
        // what an earlier, longer line said is no part of a shorter one
        Due.is("three words again", 118, Talks.hear(x, 0, 0, 0));
    }

    private static void eachItemFits() {
        for (int wrong = 0; wrong < 4; wrong++) {
            TalkKeeper x = with(2);
            Talks.row(x, 0, 1, 0, 50, 51, 52, 53);
            x.open(0);
            int[] words = {50, 51, 52, 53};
            Due.is("all fit", 1, Talks.hear(x, words));
            words[wrong] = 54;
            Due.is("item " + wrong + " does not", 124, Talks.hear(x, words));
        }
    }

    private static void passedOverAtSix() {
        int[] due = {5, 6, 106};
        int[] readings = {1, 2, 1};
        for (int cost = 5; cost <= 7; cost++) {
            TalkKeeper x = with(2);
            Talks.row(x, 0, cost, 0, 100);
            x.open(0);
            Due.is("a row at " + cost, due[cost - 5], Talks.hear(x, 1));
            Due.is("readings", readings[cost - 5], x.heard(3));
            Due.is("passed over", cost == 5 ? 0 : 1, x.heard(2));
        }
    }

    private static void leastTogether() {
        TalkKeeper x = with(2);
        Talks.row(x, 0, 1, 0, 50, 51);
        Talks.row(x, 0, 4, 0, 51, 52);
        Talks.row(x, 0, 9, 0, 50, 51, 52);
        x.open(0);
        Due.is("the first is cheapest with a word passed over", 7, Talks.hear(x, 50, 51, 52));
        Due.is("one reading", 1, x.heard(3));
        Talks.row(x, 0, 2, 0, 50);
        Due.is("two rows are cheaper together", 6, Talks.hear(x, 50, 51, 52));
        Talks.row(x, 0, 6, 0, 50, 51, 52);
        Due.is("as cheap as one row", 6, Talks.hear(x, 50, 51, 52));
        Due.is("both are least", 2, x.heard(3));
    }

    private static void heardIfSome() {
        TalkKeeper x = with(2);
        Talks.row(x, 0, 6, 0, 50);
        Talks.row(x, 0, 7, 0, 51);
        x.open(0);
        Due.is("some least reading does, at the end", 48, Talks.hear(x, 52, 52, 52, 52, 52, 52, 52, 50));
        Talks.line(x, "some", 48, 1, 8, 2, NONE);
        Due.is("at the beginning", 12, Talks.hear(x, 50, 52));
        Talks.line(x, "some", 12, 1, 2, 2, NONE);
        Due.is("a row of a dearer reading only", 112, Talks.hear(x, 51, 52));
        Talks.line(x, "none", 12, 0, 2, 1, NONE);
    }

    // ---- places

    private static void lastItem() {
        TalkKeeper x = with(4);
        Talks.row(x, 0, 1, 0, 100, 100, 100, 100);
        Talks.row(x, 0, 2, 0, 100);
        x.open(0);
        Due.is("the fourth item", 1, Talks.hear(x, 0, 1, 2, 3));
        Talks.place(x, "the fourth item", 0, 0, 8, 1);
        Due.is("the eighth word", 2, Talks.hear(x, 0, 1, 2, 3, 3, 2, 1, 0));
        Talks.place(x, "the eighth word", 0, 0, 1, 1);
        Due.is("the last piece that fills", 8, Talks.hear(x, 1, 40));
        Talks.place(x, "the last piece that fills", 0, 0, 2, 1);
    }

    private static void lastItemInSome() {
        TalkKeeper x = with(4);
        Talks.row(x, 0, 1, 0, 100);
        Talks.row(x, 0, 3, 0, 50, 100);
        Talks.row(x, 0, 3, 0, 50, 200);
        x.open(0);
        Talks.hear(x, 3);
        Due.is("0, and then 1 or nothing", 4, Talks.hear(x, 0, 50, 1));
        Due.is("two readings", 2, x.heard(3));
        Talks.place(x, "all fill it, with 0 or 1", 0, 0, 3, 0);
        Due.is("1 or nothing, and then 2", 4, Talks.hear(x, 50, 1, 2));
        Due.is("two readings", 2, x.heard(3));
        Talks.place(x, "all fill it with 2", 0, 0, 4, 1);
        Due.is("0 or nothing, and then 1 or nothing", 6, Talks.hear(x, 50, 0, 50, 1));
        Due.is("four readings", 4, x.heard(3));
        Talks.place(x, "0, 1, or what it had", 0, 0, 7, 0);
    }

    private static void notWorked() {
        TalkKeeper x = with(2, 2);
        x.worked(0, 2, 0, 1);
        Talks.row(x, 0, 1, 0, 100, 101);
        x.open(0);
        Talks.hear(x, 1, 10);
        Talks.place(x, "worked", 0, 2, 2, 1);
        Talks.hear(x, 1, 11);
        Talks.place(x, "worked anew", 0, 2, 1, 1);
    }

    private static void stays() {
        TalkKeeper x = with(3, 3, 3);
        Talks.row(x, 0, 1, 0, 100);
        Talks.row(x, 0, 6, 0, 101);
        Talks.row(x, 0, 1, 0, 50);
        x.open(0);
        Talks.hear(x, 2);
        Talks.hear(x, 11, 12);
        Due.is("no place is filled", 1, Talks.hear(x, 50));
        Talks.place(x, "SURE stays", 0, 0, 4, 1);
        Talks.place(x, "doubt stays", 0, 1, 6, 0);
        Talks.place(x, "EMPTY stays", 0, 2, 0, 0);
    }

    private static void allWithOne() {
        TalkKeeper x = with(3);
        Talks.row(x, 0, 3, 0, 100, 200);
        Talks.row(x, 0, 3, 0, 200, 100);
        x.open(0);
        Due.is("two readings, one value", 3, Talks.hear(x, 2, 2));
        Due.is("two readings", 2, x.heard(3));
        Talks.place(x, "SURE", 0, 0, 4, 1);
        Due.is("one reading", 3, Talks.hear(x, 0, 40));
        Talks.place(x, "SURE of another", 0, 0, 1, 1);
    }

    private static void becomesG() {
        TalkKeeper x = with(4);
        Talks.row(x, 0, 3, 0, 100, 200, 200, 200);
        Talks.row(x, 0, 3, 0, 200, 100, 200, 200);
        Talks.row(x, 0, 3, 0, 200, 200, 100, 200);
        Talks.row(x, 0, 3, 0, 200, 200, 200, 100);
        x.open(0);
        Talks.hear(x, 3, 3, 3, 3);
        Talks.place(x, "SURE", 0, 0, 8, 1);
        Talks.hear(x, 0, 0, 1, 1);
        Talks.place(x, "what it had goes, as all fill it", 0, 0, 3, 0);
        Talks.hear(x, 0, 1, 2, 3);
        Talks.place(x, "all four", 0, 0, 15, 0);
        Talks.hear(x, 2, 1, 1, 2);
        Talks.place(x, "two again", 0, 0, 6, 0);
    }

    private static void whatItHad() {
        TalkKeeper x = with(4);
        Talks.row(x, 0, 3, 0, 50, 100);
        Talks.row(x, 0, 3, 0, 50, 200);
        Talks.row(x, 0, 1, 0, 100);
        x.open(0);
        Talks.hear(x, 50, 3);
        Talks.place(x, "it had nothing", 0, 0, 8, 0);
        Talks.hear(x, 50, 0);
        Talks.place(x, "it had one in doubt", 0, 0, 9, 0);
        Talks.hear(x, 50, 1);
        Talks.place(x, "it had two", 0, 0, 11, 0);
        Talks.hear(x, 2);
        Talks.hear(x, 50, 3);
        Talks.place(x, "it was SURE", 0, 0, 12, 0);
    }

    private static void notSureWithOne() {
        TalkKeeper x = with(2);
        Talks.row(x, 0, 6, 0, 100);
        Talks.row(x, 0, 1, 0, 50, 100);
        x.open(0);
        Talks.hear(x, 1);
        Talks.place(x, "EMPTY ahead", 0, 0, 2, 0);
        Talks.hear(x, 1);
        Talks.place(x, "the same once more", 0, 0, 2, 0);
        Talks.hear(x, 50, 1);
        Talks.place(x, "SURE", 0, 0, 2, 1);
        Talks.hear(x, 1);
        Talks.place(x, "SURE of the same ahead", 0, 0, 2, 0);
        Due.is("CONFIRM", 101, x.act());
    }

    // ---- bars

    private static void placeByPlace() {
        TalkKeeper x = with(2, 2);
        x.bar(0, 0, 1, 1, 1);
        Talks.row(x, 0, 1, 0, 101, 100);
        x.open(0);
        Talks.hear(x, 11, 1);
        Talks.place(x, "place 0 goes first", 0, 0, 2, 1);
        Talks.place(x, "place 1 is barred", 0, 1, 0, 0);
        Talks.hear(x, 11, 0);
        Talks.place(x, "place 0 makes room", 0, 0, 1, 1);
        Talks.place(x, "place 1 is not barred", 0, 1, 2, 1);
        Talks.hear(x, 10, 1);
        Talks.place(x, "place 0 meets what place 1 had", 0, 0, 1, 1);
        Talks.place(x, "place 1 goes then", 0, 1, 1, 1);
        Due.is("the BAR was broken at place 0", 0, x.heard(4));
    }

    private static void bothSure() {
        TalkKeeper x = with(3, 3);
        x.bar(0, 0, 1, 1, 2);
        Talks.row(x, 0, 1, 0, 50, 100);
        Talks.row(x, 0, 1, 0, 50, 101);
        Talks.row(x, 0, 6, 0, 100);
        Talks.row(x, 0, 6, 0, 101);
        x.open(0);
        Talks.hear(x, 1);
        Talks.hear(x, 50, 12);
        Due.is("a in doubt", NONE, x.heard(4));
        Talks.place(x, "b is SURE", 0, 1, 4, 1);
        Talks.hear(x, 50, 1);
        Due.is("a SURE, too", 0, x.heard(4));
        Talks.place(x, "a stays in doubt", 0, 0, 2, 0);
        Talks.hear(x, 12);
        Talks.hear(x, 50, 1);
        Due.is("b in doubt", NONE, x.heard(4));
        Talks.place(x, "a is SURE", 0, 0, 2, 1);
        Talks.hear(x, 50, 11);
        Due.is("b another", NONE, x.heard(4));
        Talks.hear(x, 50, 12);
        Due.is("b SURE of w", 0, x.heard(4));
        Talks.place(x, "b stays", 0, 1, 2, 1);
        Talks.hear(x, 12);
        Due.is("a doubt breaks nothing", NONE, x.heard(4));
        Talks.place(x, "b in doubt", 0, 1, 6, 0);
    }

    private static void workedCount() {
        TalkKeeper x = with(4, 4);
        x.worked(0, 4, 0, 1);
        x.bar(0, 2, 0, 0, 3);
        Talks.row(x, 0, 1, 0, 100);
        Talks.row(x, 0, 1, 0, 101);
        x.open(0);
        Talks.hear(x, 3);
        Talks.hear(x, 11);
        Due.is("3 and 1 wrap around to 0", 0, x.heard(4));
        Talks.place(x, "the part stays", 0, 1, 0, 0);
        Talks.place(x, "so does the sum", 0, 2, 0, 0);
        Talks.hear(x, 12);
        Due.is("3 and 2 are 1", NONE, x.heard(4));
        Talks.hear(x, 11);
        Due.is("worked anew it would be 0", 0, x.heard(4));
        Talks.place(x, "the part stays", 0, 1, 4, 1);
        Talks.place(x, "so does the sum", 0, 2, 2, 1);
        Talks.hear(x, 2);
        Talks.place(x, "2 and 2 are 0, with another a", 0, 2, 1, 1);
        Talks.hear(x, 3);
        Due.is("the old sum of 0 does not count", NONE, x.heard(4));
        Talks.place(x, "3 and 2", 0, 2, 2, 1);
    }

    private static void asItWas() {
        TalkKeeper x = with(4, 2);
        x.bar(0, 0, 3, 1, 1);
        Talks.row(x, 0, 1, 0, 50, 100);
        Talks.row(x, 0, 6, 0, 100);
        Talks.row(x, 0, 1, 0, 101);
        x.open(0);
        Talks.hear(x, 11);
        Talks.hear(x, 50, 3);
        Talks.place(x, "EMPTY", 0, 0, 0, 0);
        Talks.hear(x, 0, 1);
        Talks.hear(x, 50, 3);
        Talks.place(x, "in doubt", 0, 0, 3, 0);
        Talks.hear(x, 50, 2);
        Talks.hear(x, 50, 3);
        Talks.place(x, "SURE", 0, 0, 4, 1);
        Due.is("the line was HEARD all the same", 1, x.heard(1));
        Due.is("it can be taken back", 5, x.back());
        Talks.place(x, "to what it was", 0, 0, 4, 1);
    }

    private static void firstBar() {
        TalkKeeper x = with(2, 2, 2);
        x.need(0, 0, 0, 1);
        x.bar(0, 0, 1, 2, 0);
        x.bar(0, 1, 1, 2, 1);
        x.bar(0, 2, 1, 0, 1);
        x.bar(0, 2, 1, 0, 1);
        Talks.row(x, 0, 1, 0, 100);
        Talks.row(x, 0, 1, 0, 101);
        Talks.row(x, 0, 1, 0, 102);
        x.open(0);
        Talks.hear(x, 1);
        Talks.hear(x, 21);
        Due.is("3 and 4 are broken", 3, x.heard(4));
        Talks.hear(x, 11);
        Talks.hear(x, 21);
        Due.is("2, 3 and 4 are", 2, x.heard(4));
        Talks.hear(x, 20);
        Due.is("1 is; a NEED is no BAR, but counts", 1, x.heard(4));
    }

    private static void firstPlace() {
        TalkKeeper x = with(2, 2, 2, 2);
        x.bar(0, 2, 1, 3, 1);
        x.bar(0, 1, 1, 3, 1);
        x.bar(0, 0, 0, 3, 1);
        Talks.row(x, 0, 1, 0, 103);
        Talks.row(x, 0, 1, 0, 102, 101);
        Talks.row(x, 0, 1, 0, 102, 101, 100);
        x.open(0);
        Talks.hear(x, 31);
        Talks.hear(x, 21, 11);
        Due.is("place 1 is ahead of place 2", 1, x.heard(4));
        Talks.hear(x, 21, 11, 0);
        Due.is("place 0 is ahead of both", 2, x.heard(4));
        Talks.hear(x, 21, 10, 1);
        Due.is("place 2 alone", 0, x.heard(4));
        Talks.place(x, "not barred", 0, 0, 2, 1);
        Talks.place(x, "not barred", 0, 1, 1, 1);
        Talks.place(x, "barred", 0, 2, 0, 0);
    }

    // ---- promises

    private static void waitsNoMore() {
        TalkKeeper x = with(2);
        Talks.row(x, 0, 1, 0, 50);
        x.open(0);
        x.say(50);
        Due.is("heard", 1, x.hear());
        Due.is("none waits", 0, x.count(4));
        x.say(51);
        Due.is("not heard", 106, x.hear());
        Due.is("none waits", 0, x.count(4));
        x.say(50);
        Due.is("one word alone", 1, x.hear());
    }

    private static void costIfHeard() {
        TalkKeeper x = with(2);
        Talks.row(x, 0, 1, 0, 50);
        Talks.row(x, 0, 6, 0, 51);
        x.open(0);
        Due.is("the least there is", 1, Talks.hear(x, 50));
        Due.is("the greatest there is", 48, Talks.hear(x, 51, 51, 51, 51, 51, 51, 51, 51));
        Due.is("with words passed over", 43, Talks.hear(x, 52, 52, 52, 52, 50, 52, 52, 52));
    }

    private static void costIfNot() {
        TalkKeeper x = with(2);
        x.open(0);
        for (int length = 1; length <= 8; length++) {
            Due.is(length + " words", 100 + 6 * length, Talks.hear(x, new int[length]));
            Due.is("its least COST", 6 * length, x.heard(0));
        }
    }

    private static void noWordWaits() {
        TalkKeeper x = with(2);
        x.open(0);
        Due.is("none came", STATE, x.hear());
        x.say(64);
        Due.is("a refused one", STATE, x.hear());
        x.say(1);
        x.hear();
        Due.is("it was taken", STATE, x.hear());
        Due.is("a refused hear() is no line that is not HEARD", 0, x.count(2));
        x.hear();
        x.hear();
        Due.is("nor are three", 0, x.count(2));
    }

    private static void noFormInTalk() {
        TalkKeeper x = with(2);
        x.say(1);
        Due.is("never opened", STATE, x.hear());
        x.open(0);
        x.close();
        Due.is("closed", STATE, x.hear());
        Due.is("the word waits", 1, x.count(4));
        x.open(0);
        Due.is("opened", 106, x.hear());
    }

    private static void latestLine() {
        TalkKeeper x = with(2);
        Talks.form(x, 2);
        Talks.row(x, 0, 2, 0, 50);
        x.open(0);
        Talks.hear(x, 50);
        Talks.line(x, "HEARD", 2, 1, 0, 1, NONE);
        Talks.hear(x, 51, 51);
        Talks.line(x, "not HEARD", 12, 0, 2, 1, NONE);
        x.say(50);
        x.hear();
        x.back();
        Talks.line(x, "taken back", 2, 1, 0, 1, NONE);
        x.open(1);
        x.say(1);
        Talks.line(x, "opened, and a word that waits", 2, 1, 0, 1, NONE);
        x.close();
        x.close();
        x.hear();
        Talks.line(x, "closed, and a refused hear()", 2, 1, 0, 1, NONE);
    }

    private static void costAndHeard() {
        TalkKeeper x = with(2);
        Talks.row(x, 0, 6, 0, 50);
        x.open(0);
        Talks.hear(x, 50);
        Due.is("cost", 6, x.heard(0));
        Due.is("HEARD", 1, x.heard(1));
        Talks.hear(x, 51);
        Due.is("the same cost, without the 100", 6, x.heard(0));
        Due.is("not HEARD", 0, x.heard(1));
    }

    private static void passesOverMost() {
        TalkKeeper x = with(2);
        Talks.row(x, 0, 1, 0, 50);
        Talks.row(x, 0, 7, 0, 51, 50);
        Talks.row(x, 0, 6, 0, 52);
        x.open(0);
        Talks.hear(x, 50);
        Due.is("none", 0, x.heard(2));
        Talks.hear(x, 51, 50);
        Due.is("none or one", 1, x.heard(2));
        Talks.hear(x, 52, 52, 51, 50);
        Due.is("none to three", 3, x.heard(2));
        Talks.hear(x, 53, 53, 53, 53, 53, 53, 53, 53);
        Due.is("all eight", 8, x.heard(2));
        Talks.hear(x, 50, 53, 53, 53, 53, 53, 53, 50);
        Due.is("six in the middle", 6, x.heard(2));
    }

    private static void howMany() {
        TalkKeeper x = with(2);
        Talks.row(x, 0, 2, 0, 50);
        x.open(0);
        Talks.hear(x, 51);
        Due.is("not HEARD: one", 1, x.heard(3));
        Talks.hear(x, 50);
        Due.is("one", 1, x.heard(3));
        Talks.row(x, 0, 2, 0, 50);
        Talks.hear(x, 50);
        Due.is("two ROWS alike are two", 2, x.heard(3));
        Talks.row(x, 0, 4, 0, 50, 50);
        Talks.hear(x, 50, 50);
        Due.is("two by two, and one", 5, x.heard(3));
        Talks.row(x, 0, 6, 0, 60);
        Talks.hear(x, 60, 60, 60, 60, 60, 60, 60, 60);
        Due.is("each word read or passed over", 256, x.heard(3));
    }

    /**
     * Lines with just so many readings; each item costs 2, so that all cuts are alike.
     * ones: how many rows of one item each of the words 0, 1, 2 has; stars: rows of 1 to 4 stars.
     */
    private static int waysOf(int[] ones, int[] stars, int... words) {
        TalkKeeper x = with(2);
        for (int word = 0; word < ones.length; word++) {
            for (int i = 0; i < ones[word]; i++) {
                Talks.row(x, 0, 2, 0, word);
            }
        }
        for (int length = 1; length <= stars.length; length++) {
            int[] items = new int[length];
            java.util.Arrays.fill(items, 200);
            for (int i = 0; i < stars[length - 1]; i++) {
                Talks.row(x, 0, 2 * length, 0, items);
            }
        }
        x.open(0);
        Due.is("its cost", 2 * words.length, Talks.hear(x, words));
        return x.heard(3);
    }

    private static void soManyOrMore() {
        Due.is("one less", 999999, waysOf(new int[] {5, 1, 3}, new int[] {3, 1, 4, 2}, 2, 1, 2, 1, 1, 0, 2, 2));
        Due.is("just so many", 1000000, waysOf(new int[] {3, 0}, new int[] {5}, 1, 1, 1, 1, 0, 1, 1, 0));
        Due.is("one more", 1000000, waysOf(new int[] {10, 3, 1}, new int[] {1, 1, 3}, 1, 0, 0, 1, 1, 0, 2, 1));
        Due.is("20 to the 8th", 1000000, waysOf(new int[] {20}, new int[] {}, 0, 0, 0, 0, 0, 0, 0, 0));
    }

    private static void brokenRule() {
        TalkKeeper x = with(2, 2);
        for (int r = 0; r < 5; r++) {
            x.need(0, 0, 0, 1);
        }
        Due.is("the last rule there can be", 5, x.bar(0, 0, 1, 1, 1));
        Talks.row(x, 0, 1, 0, 100);
        Talks.row(x, 0, 1, 0, 101);
        x.open(0);
        Talks.hear(x, 1);
        Due.is("none", NONE, x.heard(4));
        Talks.hear(x, 11);
        Due.is("rule 5", 5, x.heard(4));
        Talks.hear(x, 60);
        Due.is("none, by a line that is not HEARD", NONE, x.heard(4));
        Talks.hear(x, 11);
        Due.is("rule 5 again", 5, x.heard(4));
        x.back();
        Due.is("it is that of the latest line still", 5, x.heard(4));
        Talks.hear(x, 10);
        Due.is("none", NONE, x.heard(4));
    }

    private static void heardNone() {
        TalkKeeper x = with(2);
        for (int time = 0; time < 2; time++) {
            for (int wild : Talks.WILD) {
                Due.is("heard(" + wild + ")", NONE, x.heard(wild));
            }
            Due.is("heard(5)", NONE, x.heard(5));
            x.open(0);
            Talks.hear(x, 1);
        }
    }

    private static void withoutLine() {
        TalkKeeper x = new TalkKeeper();
        Talks.line(x, "new", 0, 0, 0, 0, NONE);
        Talks.form(x, 2);
        x.open(0);
        x.say(1);
        Talks.line(x, "none was taken", 0, 0, 0, 0, NONE);
        x.close();
        x.hear();
        Talks.line(x, "a refused one", 0, 0, 0, 0, NONE);
    }
}
