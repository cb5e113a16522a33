/** Promises 17 to 20: about, said, heard, count. */
final class LookingTest {
    private static final int NONE = Talks.NONE;

    public static void main(String[] args) {
        about();
        said();
        count();
        anyCallInAnyState();
        Due.end();
    }

    private static void about() {
        TalkKeeper x = new TalkKeeper();
        Due.is("no form", NONE, x.about(0, 0, 0));
        Talks.form(x, 2);
        x.place(0, 2, 4);
        x.worked(0, 3, 0, 1);
        x.need(0, 0, 1, 1);
        for (int wild : Talks.WILD) {
            Due.is("form " + wild, NONE, x.about(wild, 0, 0));
            Due.is("place " + wild, NONE, x.about(0, wild, 0));
            Due.is("what " + wild, NONE, x.about(0, 0, wild));
        }
        Due.is("form 1", NONE, x.about(1, 0, 0));
        Due.is("place 3", NONE, x.about(0, 3, 0));
        Due.is("what 5", NONE, x.about(0, 0, 5));
        int[][] due = {{0, 0, 1, 0, 2}, {0, 0, 0, 2, 4}, {0, 0, 0, 1, 3}};
        look(x, "not open", due);
        Talks.words(x, 0, 0, 2, 4);
        Talks.row(x, 0, 1, 0, 100);
        Talks.row(x, 0, 6, 0, 101);
        Talks.row(x, 0, 1, 0, 30, 101);
        x.open(0);
        Talks.hear(x, 1);
        look(x, "place 0 is sure", new int[][] {{2, 1, 1, 0, 2}, {0, 0, 1, 2, 4}, {0, 0, 0, 1, 3}});
        Talks.hear(x, 13);
        look(x, "place 1 in doubt", new int[][] {{2, 1, 1, 0, 2}, {8, 0, 1, 2, 4}, {0, 0, 0, 1, 3}});
        Talks.hear(x, 30, 13);
        look(x, "both are sure", new int[][] {{2, 1, 1, 0, 2}, {8, 1, 1, 2, 4}, {2, 1, 0, 1, 3}});
        Talks.hear(x, 0);
        look(x, "place 1 is not wanted", new int[][] {{1, 1, 1, 0, 2}, {8, 1, 0, 2, 4}, {1, 1, 0, 1, 3}});
    }

    private static void look(TalkKeeper x, String when, int[][] due) {
        for (int p = 0; p < due.length; p++) {
            for (int what = 0; what < 5; what++) {
                Due.is(when + ": about(0, " + p + ", " + what + ")", due[p][what], x.about(0, p, what));
            }
        }
    }

    private static void said() {
        TalkKeeper x = new TalkKeeper();
        Due.is("no form", NONE, x.said(0, 0, 0));
        Talks.form(x, 2, 3);
        x.worked(0, 2, 0, 1);
        Talks.form(x, 2);
        for (int wild : Talks.WILD) {
            Due.is("form " + wild, NONE, x.said(wild, 0, 0));
            Due.is("place " + wild, NONE, x.said(0, wild, 0));
            Due.is("value " + wild, NONE, x.said(0, 0, wild));
        }
        Due.is("none says it", NONE, x.said(0, 0, 0));
        x.word(0, 0, 0, 63);
        Due.is("63", 63, x.said(0, 0, 0));
        x.word(0, 0, 0, 7);
        x.word(0, 0, 0, 9);
        x.word(0, 1, 2, 0);
        x.word(1, 0, 0, 3);
        Due.is("the least", 7, x.said(0, 0, 0));
        Due.is("word 0", 0, x.said(0, 1, 2));
        Due.is("another form", 3, x.said(1, 0, 0));
        Due.is("another value", NONE, x.said(0, 0, 1));
        Due.is("v is n", NONE, x.said(0, 1, 3));
        Due.is("worked", NONE, x.said(0, 2, 0));
    }

    private static void count() {
        TalkKeeper x = new TalkKeeper();
        for (int wild : Talks.WILD) {
            Due.is("count(" + wild + ")", NONE, x.count(wild));
        }
        Due.is("count(8)", NONE, x.count(8));
        Talks.form(x, 2);
        Talks.form(x, 2);
        Talks.form(x, 2);
        Talks.row(x, 0, 1, 0, 5);
        Talks.row(x, 2, 1, 0, 5);
        x.item(2, 0);
        x.item(2, 0);
        x.item(2, 0);
        x.open(1);
        x.open(2);
        Talks.hear(x, 5);
        Talks.hear(x, 5);
        Talks.hear(x, 6);
        Talks.hear(x, 6);
        Talks.hear(x, 6);
        x.say(1);
        x.say(1);
        x.say(1);
        x.say(1);
        int[] due = {2, 2, 1, 2, 4, 3, 3, 2};
        for (int what = 0; what < due.length; what++) {
            Due.is("count(" + what + ")", due[what], x.count(what));
        }
    }

    /** No call may throw, whatever its numbers are. */
    private static void anyCallInAnyState() {
        java.util.Random random = new java.util.Random(5);
        int[] edges = {Integer.MIN_VALUE, -4, -3, -2, -1, 0, 1, 2, 3, 4, 5, 6, 9, 63, 64, Integer.MAX_VALUE};
        for (int run = 0; run < 300; run++) {
            TalkKeeper x = new TalkKeeper();
            for (int i = 0; i < 2000; i++) {
                int[] n = new int[5];
                for (int k = 0; k < 5; k++) {
                    n[k] = random.nextInt(8) == 0 ? edges[random.nextInt(edges.length)] : random.nextInt(5);
                }
                Calls.call(x, random.nextInt(Calls.NUMBER), n);
            }
        }
        Due.isTrue("no call threw", true);
    }
}
