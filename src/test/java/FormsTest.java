/** Promises 1 to 9: a new object, form, place, worked, bar, need, word, item, row. */
final class FormsTest {
    private static final int NONE = Talks.NONE, BAD = Talks.BAD, STATE = Talks.STATE, FULL = Talks.FULL;

    public static void main(String[] args) {
        newObject();
        form();
        place();
        placeRefusals();
        worked();
        workedRefusals();
        bar();
        need();
        rulesAreFull();
        word();
        item();
        row();
        rowRefusals();
        rowsAreFull();
        Due.end();
    }

    private static void newObject() {
        TalkKeeper x = new TalkKeeper();
        int[] counts = {0, NONE, 0, 0, 0, 0, 0, 0};
        for (int what = 0; what < counts.length; what++) {
            Due.is("new: count(" + what + ")", counts[what], x.count(what));
        }
        Talks.line(x, "new", 0, 0, 0, 0, NONE);
        Due.is("new: act()", STATE, x.act());
        Due.is("new: worst()", STATE, x.worst());
        Due.is("new: hear()", STATE, x.hear());
        Due.is("new: back()", STATE, x.back());
        Due.is("new: close()", STATE, x.close());
        Due.is("new: open(0)", NONE, x.open(0));
        Due.is("new: about(0, 0, 0)", NONE, x.about(0, 0, 0));
        Due.is("new: row(0, 1, 0)", NONE, x.row(0, 1, 0));
        TalkKeeper other = new TalkKeeper();
        x.form();
        Due.is("another object has no form", 0, other.count(6));
    }

    private static void form() {
        TalkKeeper x = new TalkKeeper();
        for (int f = 0; f < 3; f++) {
            Due.is("form()", f, x.form());
            Due.is("a new form has no places", NONE, x.about(f, 0, 4));
        }
        Due.is("form() the fourth time", FULL, x.form());
        Due.is("count(6)", 3, x.count(6));
    }

    private static void place() {
        TalkKeeper x = new TalkKeeper();
        x.form();
        x.form();
        int[] kinds = {0, 2, 0, 2, 0};
        int[] sizes = {2, 3, 4, 4, 2};
        for (int p = 0; p < 5; p++) {
            Due.is("place", p, x.place(1, kinds[p], sizes[p]));
            Due.is("kind", kinds[p], x.about(1, p, 3));
            Due.is("n", sizes[p], x.about(1, p, 4));
            Talks.place(x, "new place", 1, p, 0, 0);
            Due.is("wanted", 1, x.about(1, p, 2));
        }
        Due.is("a sixth place", FULL, x.place(1, 0, 2));
        Due.is("form 0 has none", NONE, x.about(0, 0, 0));
        Due.is("form 0 numbers its own", 0, x.place(0, 0, 2));
    }

    private static void placeRefusals() {
        TalkKeeper x = new TalkKeeper();
        Due.is("no form", NONE, x.place(0, 7, 9));
        x.form();
        for (int wild : Talks.WILD) {
            Due.is("form " + wild, NONE, x.place(wild, 0, 2));
            Due.is("kind " + wild, BAD, x.place(0, wild, 2));
            Due.is("n " + wild, BAD, x.place(0, 0, wild));
        }
        Due.is("form 1", NONE, x.place(1, 0, 2));
        Due.is("kind 1", BAD, x.place(0, 1, 2));
        Due.is("kind 3", BAD, x.place(0, 3, 2));
        Due.is("n 0", BAD, x.place(0, 0, 0));
        Due.is("n 1", BAD, x.place(0, 0, 1));
        Due.is("n 5", BAD, x.place(0, 2, 5));
        Due.is("nothing came", 0, x.place(0, 0, 2));
        x.open(0);
        Due.is("in the talk", STATE, x.place(0, 0, 2));
        Due.is("BAD goes ahead of STATE", BAD, x.place(0, 1, 2));
        Due.is("the refused one is not there", NONE, x.about(0, 1, 0));
        x.close();
        for (int p = 1; p < 5; p++) {
            Due.is("closed again", p, x.place(0, 0, 2));
        }
        Due.is("FULL", FULL, x.place(0, 0, 2));
        Due.is("BAD goes ahead of FULL", BAD, x.place(0, 0, 5));
        x.open(0);
        Due.is("STATE goes ahead of FULL", STATE, x.place(0, 0, 2));
        x.form();
        x.open(1);
        Due.is("below in the talk counts", STATE, x.place(0, 0, 2));
    }

    private static void worked() {
        TalkKeeper x = new TalkKeeper();
        Talks.form(x, 4, 3);
        Due.is("worked(0, 3, 0, 1)", 2, x.worked(0, 3, 0, 1));
        Due.is("worked(0, 2, 1, 1)", 3, x.worked(0, 2, 1, 1));
        Due.is("worked(0, 4, 1, 0)", 4, x.worked(0, 4, 1, 0));
        for (int p = 2; p < 5; p++) {
            Due.is("kind", 1, x.about(0, p, 3));
            Due.is("never wanted", 0, x.about(0, p, 2));
        }
        Talks.words(x, 0, 0, 4, 3);
        Talks.row(x, 0, 1, 0, 100);
        Talks.row(x, 0, 1, 0, 101);
        Talks.row(x, 0, 2, 0, 101, 50);
        Talks.row(x, 0, 2, 0, 50, 101);
        x.open(0);
        Talks.place(x, "opened", 0, 2, 0, 0);
        Talks.hear(x, 3);
        Talks.place(x, "one part alone", 0, 2, 0, 0);
        for (int v = 0; v < 3; v++) {
            Talks.hear(x, 10 + v);
            Talks.place(x, "both parts", 0, 2, 1 << (3 + v) % 3, 1);
            Talks.place(x, "one part twice", 0, 3, 1 << 2 * v % 2, 1);
            Talks.place(x, "the other way", 0, 4, 1 << (3 + v) % 4, 1);
        }
        // both rows read a half: 10 by the row (place, 50), 11 by the row (50, place)
        Talks.row(x, 0, 3, 0, 101, 200, 200);
        Talks.row(x, 0, 3, 0, 200, 200, 101);
        Due.is("a doubtful line", 3, Talks.hear(x, 10, 40, 11));
        Talks.place(x, "a part in doubt", 0, 1, 3, 0);
        Talks.place(x, "a part in doubt", 0, 2, 0, 0);
        Talks.place(x, "a part in doubt", 0, 3, 0, 0);
        x.close();
        Talks.place(x, "closed", 0, 0, 8, 1);
    }

    private static void workedRefusals() {
        TalkKeeper x = new TalkKeeper();
        Due.is("no form", NONE, x.worked(0, 9, 0, 0));
        Talks.form(x, 2, 2);
        for (int wild : Talks.WILD) {
            Due.is("form " + wild, NONE, x.worked(wild, 2, 0, 1));
            Due.is("n " + wild, BAD, x.worked(0, wild, 0, 1));
            Due.is("a " + wild, NONE, x.worked(0, 2, wild, 1));
            Due.is("b " + wild, NONE, x.worked(0, 2, 0, wild));
        }
        Due.is("its own number", NONE, x.worked(0, 2, 2, 0));
        Due.is("its own number", NONE, x.worked(0, 2, 0, 2));
        Due.is("n 1", BAD, x.worked(0, 1, 0, 1));
        Due.is("n 5", BAD, x.worked(0, 5, 0, 1));
        Due.is("NONE goes ahead of BAD", NONE, x.worked(0, 5, 0, 2));
        Due.is("taken", 2, x.worked(0, 2, 0, 0));
        Due.is("a is worked", BAD, x.worked(0, 2, 2, 0));
        Due.is("b is worked", BAD, x.worked(0, 2, 0, 2));
        x.open(0);
        Due.is("in the talk", STATE, x.worked(0, 2, 0, 1));
        Due.is("BAD goes ahead of STATE", BAD, x.worked(0, 2, 0, 2));
        x.close();
        x.place(0, 2, 2);
        Due.is("out of a secret one", 4, x.worked(0, 2, 3, 3));
        Due.is("a sixth place", FULL, x.worked(0, 2, 0, 1));
        Due.is("BAD goes ahead of FULL", BAD, x.worked(0, 2, 4, 1));
        x.open(0);
        Due.is("STATE goes ahead of FULL", STATE, x.worked(0, 2, 0, 1));
    }

    private static void bar() {
        TalkKeeper x = new TalkKeeper();
        Due.is("no form", NONE, x.bar(0, 0, 0, 1, 0));
        Talks.form(x, 2, 3, 4);
        x.worked(0, 2, 0, 1);
        for (int wild : Talks.WILD) {
            Due.is("form " + wild, NONE, x.bar(wild, 0, 0, 1, 0));
            Due.is("a " + wild, NONE, x.bar(0, wild, 0, 1, 0));
            Due.is("v " + wild, NONE, x.bar(0, 0, wild, 1, 0));
            Due.is("b " + wild, NONE, x.bar(0, 0, 0, wild, 0));
            Due.is("w " + wild, NONE, x.bar(0, 0, 0, 1, wild));
        }
        Due.is("v is n", NONE, x.bar(0, 0, 2, 1, 0));
        Due.is("w is n", NONE, x.bar(0, 0, 0, 1, 3));
        Due.is("b 4", NONE, x.bar(0, 0, 0, 4, 0));
        Due.is("a is b", BAD, x.bar(0, 1, 0, 1, 1));
        Due.is("NONE goes ahead of BAD", NONE, x.bar(0, 1, 3, 1, 1));
        Due.is("taken", 0, x.bar(0, 2, 3, 1, 2));
        Due.is("with a worked one", 1, x.bar(0, 3, 1, 0, 1));
        x.open(0);
        Due.is("in the talk", STATE, x.bar(0, 0, 0, 1, 0));
        Due.is("BAD goes ahead of STATE", BAD, x.bar(0, 0, 0, 0, 0));
    }

    private static void need() {
        TalkKeeper x = new TalkKeeper();
        Due.is("no form", NONE, x.need(0, 0, 0, 1));
        Talks.form(x, 2, 3);
        x.worked(0, 2, 0, 0);
        for (int wild : Talks.WILD) {
            Due.is("form " + wild, NONE, x.need(wild, 0, 0, 1));
            Due.is("a " + wild, NONE, x.need(0, wild, 0, 1));
            Due.is("v " + wild, NONE, x.need(0, 0, wild, 1));
            Due.is("b " + wild, NONE, x.need(0, 0, 0, wild));
        }
        Due.is("v is n", NONE, x.need(0, 0, 2, 1));
        Due.is("b 3", NONE, x.need(0, 0, 0, 3));
        Due.is("a is b", BAD, x.need(0, 1, 0, 1));
        Due.is("b is worked", BAD, x.need(0, 0, 0, 2));
        Due.is("NONE goes ahead of BAD", NONE, x.need(0, 0, 2, 2));
        Due.is("taken", 0, x.need(0, 0, 1, 1));
        Due.is("wanted no more", 0, x.about(0, 1, 2));
        Due.is("a is worked", 1, x.need(0, 2, 1, 1));
        x.open(0);
        Due.is("in the talk", STATE, x.need(0, 0, 1, 1));
        Due.is("BAD goes ahead of STATE", BAD, x.need(0, 0, 0, 0));
    }

    private static void rulesAreFull() {
        TalkKeeper x = new TalkKeeper();
        Talks.form(x, 2, 2);
        Talks.form(x, 2, 2);
        for (int r = 0; r < 6; r++) {
            int got = r % 2 == 0 ? x.bar(0, 0, 0, 1, 0) : x.need(0, 0, 0, 1);
            Due.is("rule", r, got);
        }
        Due.is("a seventh bar", FULL, x.bar(0, 0, 0, 1, 0));
        Due.is("a seventh need", FULL, x.need(0, 0, 0, 1));
        Due.is("BAD goes ahead of FULL", BAD, x.need(0, 0, 0, 0));
        Due.is("another form numbers its own", 0, x.need(1, 0, 0, 1));
        x.open(0);
        Due.is("STATE goes ahead of FULL", STATE, x.bar(0, 0, 0, 1, 0));
        Due.is("STATE goes ahead of FULL", STATE, x.need(0, 0, 0, 1));
    }

    private static void word() {
        TalkKeeper x = new TalkKeeper();
        Due.is("no form", NONE, x.word(0, 0, 0, 0));
        Talks.form(x, 2, 3);
        Talks.form(x, 2);
        x.worked(0, 4, 0, 1);
        for (int wild : Talks.WILD) {
            Due.is("form " + wild, NONE, x.word(wild, 0, 0, 0));
            Due.is("place " + wild, NONE, x.word(0, wild, 0, 0));
            Due.is("value " + wild, NONE, x.word(0, 0, wild, 0));
            Due.is("word " + wild, NONE, x.word(0, 0, 0, wild));
        }
        Due.is("v is n", NONE, x.word(0, 0, 2, 0));
        Due.is("worked", BAD, x.word(0, 2, 3, 0));
        Due.is("NONE goes ahead of BAD", NONE, x.word(0, 2, 4, 0));
        Due.is("NONE goes ahead of BAD", NONE, x.word(0, 2, 0, 64));
        Due.is("word 0", 0, x.word(0, 0, 1, 0));
        Due.is("word 63", 0, x.word(0, 1, 2, 63));
        Due.is("it says that already", STATE, x.word(0, 0, 1, 0));
        Due.is("it says another", STATE, x.word(0, 0, 0, 0));
        Due.is("it says one of another place", STATE, x.word(0, 1, 0, 0));
        Due.is("BAD goes ahead of STATE", BAD, x.word(0, 2, 0, 0));
        Due.is("in another form it may", 0, x.word(1, 0, 0, 0));
        Due.is("two words for a value", 0, x.word(0, 0, 1, 7));
        x.open(0);
        Due.is("in the talk, too", 0, x.word(0, 0, 0, 8));
        Due.is("said", 8, x.said(0, 0, 0));
    }

    private static void item() {
        TalkKeeper x = new TalkKeeper();
        for (int wild : Talks.WILD) {
            Due.is("what " + wild, BAD, x.item(wild, 0));
            Due.is("word " + wild, BAD, x.item(0, wild));
            Due.is("place " + wild, BAD, x.item(1, wild));
            Due.is("star " + wild, BAD, x.item(2, wild));
        }
        Due.is("what 3", BAD, x.item(3, 0));
        Due.is("place 5", BAD, x.item(1, 5));
        Due.is("star 1", BAD, x.item(2, 1));
        Due.is("none waits", 0, x.count(5));
        Due.is("word 63", 1, x.item(0, 63));
        Due.is("word 0", 2, x.item(0, 0));
        Due.is("place 4", 3, x.item(1, 4));
        Due.is("star", 4, x.item(2, 0));
        Due.is("a fifth", FULL, x.item(2, 0));
        Due.is("BAD goes ahead of FULL", BAD, x.item(2, 1));
        Due.is("four wait", 4, x.count(5));
    }

    private static void row() {
        TalkKeeper x = new TalkKeeper();
        Talks.form(x, 2);
        Talks.form(x, 2);
        x.item(1, 0);
        x.item(0, 5);
        Due.is("a row", 0, x.row(0, 9, 0));
        Due.is("its items wait no more", 0, x.count(5));
        Due.is("count(7)", 1, x.count(7));
        x.item(2, 0);
        Due.is("rows of all forms are numbered as one", 1, x.row(1, 1, 1));
        x.open(0);
        x.item(2, 0);
        Due.is("in the talk, too", 2, x.row(0, 1, 2));
        Due.is("cost of the star", 1, Talks.hear(x, 3));
    }

    private static void rowRefusals() {
        TalkKeeper x = new TalkKeeper();
        Due.is("no form", NONE, x.row(0, 0, 9));
        Talks.form(x, 2);
        x.worked(0, 2, 0, 0);
        Due.is("none waits", STATE, x.row(0, 1, 0));
        Due.is("BAD goes ahead of STATE", BAD, x.row(0, 0, 0));
        x.item(0, 1);
        for (int wild : Talks.WILD) {
            Due.is("form " + wild, NONE, x.row(wild, 1, 0));
            Due.is("cost " + wild, BAD, x.row(0, wild, 0));
            Due.is("act " + wild, BAD, x.row(0, 1, wild));
        }
        Due.is("form 1", NONE, x.row(1, 1, 0));
        Due.is("cost 0", BAD, x.row(0, 0, 0));
        Due.is("cost 10", BAD, x.row(0, 10, 0));
        Due.is("act 3", BAD, x.row(0, 1, 3));
        Due.is("the item waits still", 1, x.count(5));
        x.item(1, 0);
        Due.is("YES with a place", BAD, x.row(0, 1, 1));
        Due.is("NO with a place", BAD, x.row(0, 1, 2));
        Due.is("FILL with it", 0, x.row(0, 1, 0));
        x.item(1, 1);
        Due.is("a worked place", BAD, x.row(0, 1, 0));
        x.item(1, 2);
        Due.is("a place it has not goes ahead of BAD", NONE, x.row(0, 0, 0));
        Due.is("both wait", 2, x.count(5));
        Due.is("then it has", 2, x.place(0, 0, 2));
        Due.is("the worked one is BAD still", BAD, x.row(0, 1, 0));
        Talks.form(x, 2, 2, 2);
        Due.is("another form takes them", 1, x.row(1, 1, 0));
    }

    private static void rowsAreFull() {
        TalkKeeper x = new TalkKeeper();
        Talks.form(x, 2);
        Talks.form(x, 2);
        for (int r = 0; r < 20; r++) {
            Talks.row(x, r % 2, 1 + r % 9, r % 3, r);
        }
        Due.is("STATE goes ahead of FULL", STATE, x.row(0, 1, 0));
        for (int i = 1; i <= 4; i++) {
            Due.is("items may wait", i, x.item(0, 63));
        }
        Due.is("a row more", FULL, x.row(0, 1, 0));
        Due.is("BAD goes ahead of FULL", BAD, x.row(0, 10, 0));
        Due.is("the items wait still", 4, x.count(5));
        Due.is("count(7)", 20, x.count(7));
        x.open(0);
        Due.is("row 18 reads", 1, Talks.hear(x, 18));
        Due.is("row 19 is of the other form", 106, Talks.hear(x, 19));
        Due.is("the items that wait read nothing", 124, Talks.hear(x, 63, 63, 63, 63));
    }
}
