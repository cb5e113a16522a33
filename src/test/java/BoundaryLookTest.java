/** The boundary cases of promises 17 and 20: about and count. */
final class BoundaryLookTest {
    private static final int NONE = Talks.NONE;

    public static void main(String[] args) {
        Sentence.holds("17: 0 its set of VALUES, as bits (0: EMPTY)", BoundaryLookTest::setAsBits);
        Sentence.holds("17: 1 whether it is SURE", BoundaryLookTest::sure);
        Sentence.holds("17: 2 whether it is WANTED", BoundaryLookTest::wanted);
        Sentence.holds("17: 3 KIND, 4 n", BoundaryLookTest::kindAndSize);
        Sentence.holds("17: NONE", BoundaryLookTest::aboutNone);
        Sentence.holds("20: 0 how many FORMS", BoundaryLookTest::formsInTalk);
        Sentence.holds("20: 1 the uppermost one (NONE)", BoundaryLookTest::uppermostOne);
        Sentence.holds("20: 2 whether it is HANDED", BoundaryLookTest::isHanded);
        Sentence.holds("20: 3 how many LINES can be taken back", BoundaryLookTest::linesKept);
        Sentence.holds("20: 4 WORDS that wait", BoundaryLookTest::wordsThatWait);
        Sentence.holds("20: 5 ITEMS that wait", BoundaryLookTest::itemsThatWait);
        Sentence.holds("20: 6 FORMS of all", BoundaryLookTest::formsOfAll);
        Sentence.holds("20: 7 ROWS", BoundaryLookTest::rowsOfAll);
        Sentence.holds("20: NONE", BoundaryLookTest::countNone);
        Sentence.end();
    }

    private static TalkKeeper with(int... sizes) {
        TalkKeeper x = new TalkKeeper();
        Talks.form(x, sizes);
        Talks.words(x, 0, 0, sizes);
        for (int p = 0; p < sizes.length; p++) {
            Talks.row(x, 0, 1, 0, 100 + p);
            Talks.row(x, 0, 6, 0, 60, 100 + p);
        }
        Talks.row(x, 0, 6, 0, 60, 200);
        return x;
    }

    private static void setAsBits() {
        TalkKeeper x = with(4);
        Due.is("EMPTY, not opened", 0, x.about(0, 0, 0));
        x.open(0);
        Due.is("EMPTY", 0, x.about(0, 0, 0));
        int bits = 0;
        for (int v = 0; v < 4; v++) {
            Talks.hear(x, 60, v);
            bits += 1 << v;
            Due.is("one more", bits, x.about(0, 0, 0));
        }
        for (int v = 0; v < 4; v++) {
            Talks.hear(x, v);
            Due.is("one alone", 1 << v, x.about(0, 0, 0));
        }
    }

    private static void sure() {
        TalkKeeper x = with(2);
        x.worked(0, 2, 0, 0);
        x.open(0);
        Due.is("EMPTY", 0, x.about(0, 0, 1));
        Due.is("EMPTY, WORKED", 0, x.about(0, 1, 1));
        Talks.hear(x, 60, 0);
        Due.is("one VALUE in doubt", 0, x.about(0, 0, 1));
        Due.is("WORKED", 0, x.about(0, 1, 1));
        Talks.hear(x, 0);
        Due.is("SURE of VALUE 0", 1, x.about(0, 0, 1));
        Due.is("WORKED", 1, x.about(0, 1, 1));
    }

    private static void wanted() {
        TalkKeeper x = with(2, 2);
        x.need(0, 0, 0, 1);
        x.worked(0, 2, 0, 0);
        Due.is("without a NEED, not opened", 1, x.about(0, 0, 2));
        Due.is("with one", 0, x.about(0, 1, 2));
        x.open(0);
        Talks.hear(x, 0);
        Due.is("SURE ones are WANTED still", 1, x.about(0, 0, 2));
        Due.is("its NEED holds for VALUE 0", 1, x.about(0, 1, 2));
        Due.is("WORKED", 0, x.about(0, 2, 2));
        x.close();
        Due.is("closed", 1, x.about(0, 1, 2));
    }

    private static void kindAndSize() {
        TalkKeeper x = with(2);
        x.place(0, 2, 4);
        x.worked(0, 3, 1, 1);
        int[][] due = {{0, 2}, {2, 4}, {1, 3}};
        for (int p = 0; p < 3; p++) {
            Due.is("KIND", due[p][0], x.about(0, p, 3));
            Due.is("n", due[p][1], x.about(0, p, 4));
        }
    }

    private static void aboutNone() {
        TalkKeeper x = new TalkKeeper();
        Due.is("no form at all", NONE, x.about(0, 0, 0));
        x.form();
        Due.is("no place at all", NONE, x.about(0, 0, 0));
        Talks.form(x, 2);
        for (int wild : Talks.WILD) {
            Due.is("form " + wild, NONE, x.about(wild, 0, 0));
            Due.is("place " + wild, NONE, x.about(1, wild, 0));
            Due.is("what " + wild, NONE, x.about(1, 0, wild));
        }
        Due.is("form 2", NONE, x.about(2, 0, 0));
        Due.is("place 1", NONE, x.about(1, 1, 0));
        Due.is("what 5", NONE, x.about(1, 0, 5));
        Due.is("what 4", 2, x.about(1, 0, 4));
    }

    private static void formsInTalk() {
        TalkKeeper x = new TalkKeeper();
        for (int f = 0; f < 3; f++) {
            x.form();
            Due.is("not opened", f, x.count(0));
            x.open(f);
            Due.is("opened", f + 1, x.count(0));
        }
        for (int f = 2; f >= 0; f--) {
            x.close();
            Due.is("closed", f, x.count(0));
        }
    }

    private static void uppermostOne() {
        TalkKeeper x = new TalkKeeper();
        Due.is("new", NONE, x.count(1));
        x.form();
        x.form();
        Due.is("none opened", NONE, x.count(1));
        x.open(1);
        Due.is("form 1", 1, x.count(1));
        x.open(0);
        Due.is("form 0", 0, x.count(1));
        x.close();
        Due.is("form 1 again", 1, x.count(1));
        x.close();
        Due.is("none", NONE, x.count(1));
    }

    private static void isHanded() {
        TalkKeeper x = with(2);
        x.open(0);
        for (int i = 1; i <= 4; i++) {
            Talks.hear(x, 50);
            Due.is(i + " not HEARD", i < 3 ? 0 : 1, x.count(2));
        }
        x.close();
        Due.is("an empty TALK", 1, x.count(2));
    }

    private static void linesKept() {
        TalkKeeper x = with(2);
        x.open(0);
        for (int i = 1; i <= 12; i++) {
            Talks.hear(x, 1);
            Due.is(i + " HEARD", Math.min(10, i), x.count(3));
        }
        Talks.hear(x, 50);
        Due.is("one not HEARD", 10, x.count(3));
        x.back();
        Due.is("one taken back", 9, x.count(3));
    }

    private static void wordsThatWait() {
        TalkKeeper x = with(2);
        for (int i = 1; i <= 9; i++) {
            x.say(1);
            Due.is(i + " said", Math.min(8, i), x.count(4));
        }
        x.open(0);
        x.hear();
        Due.is("taken", 0, x.count(4));
    }

    private static void itemsThatWait() {
        TalkKeeper x = with(2);
        for (int i = 1; i <= 5; i++) {
            x.item(2, 0);
            Due.is(i + " came", Math.min(4, i), x.count(5));
        }
        x.row(0, 1, 0);
        Due.is("a row", 0, x.count(5));
    }

    private static void formsOfAll() {
        TalkKeeper x = new TalkKeeper();
        for (int i = 1; i <= 4; i++) {
            x.form();
            Due.is(i + " times", Math.min(3, i), x.count(6));
        }
        x.open(0);
        x.close();
        Due.is("closed ones count", 3, x.count(6));
    }

    private static void rowsOfAll() {
        TalkKeeper x = new TalkKeeper();
        x.form();
        x.form();
        for (int i = 1; i <= 21; i++) {
            x.item(2, 0);
            x.row(i % 2, 1, 0);
            Due.is(i + " times", Math.min(20, i), x.count(7));
        }
    }

    private static void countNone() {
        TalkKeeper x = new TalkKeeper();
        for (int wild : Talks.WILD) {
            Due.is("count(" + wild + ")", NONE, x.count(wild));
        }
        Due.is("count(8)", NONE, x.count(8));
        Due.is("count(7)", 0, x.count(7));
    }
}
