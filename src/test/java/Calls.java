/** The calls of the face by number, so that tests can draw them. */
final class Calls {
    static final String[] NAMES = {"form", "place", "worked", "bar", "need", "word", "item", "row", "open", "close",
        "say", "hear", "back", "act", "worst", "about", "said", "heard", "count"};
    static final int[] PARAMETERS = {0, 3, 4, 5, 4, 4, 2, 3, 1, 0, 1, 0, 0, 0, 0, 3, 3, 1, 1};
    static final int NUMBER = 19;

    private Calls() {
    }

    static int call(TalkKeeper x, int which, int[] n) {
        switch (which) {
            case 0: return x.form();
            case 1: return x.place(n[0], n[1], n[2]);
            case 2: return x.worked(n[0], n[1], n[2], n[3]);
            case 3: return x.bar(n[0], n[1], n[2], n[3], n[4]);
            case 4: return x.need(n[0], n[1], n[2], n[3]);
            case 5: return x.word(n[0], n[1], n[2], n[3]);
            case 6: return x.item(n[0], n[1]);
            case 7: return x.row(n[0], n[1], n[2]);
            case 8: return x.open(n[0]);
            case 9: return x.close();
            case 10: return x.say(n[0]);
            case 11: return x.hear();
            case 12: return x.back();
            case 13: return x.act();
            case 14: return x.worst();
            case 15: return x.about(n[0], n[1], n[2]);
            case 16: return x.said(n[0], n[1], n[2]);
            case 17: return x.heard(n[0]);
            default: return x.count(n[0]);
        }
    }

    static int call(Model x, int which, int[] n) {
        switch (which) {
            case 0: return x.form();
            case 1: return x.place(n[0], n[1], n[2]);
            case 2: return x.worked(n[0], n[1], n[2], n[3]);
            case 3: return x.bar(n[0], n[1], n[2], n[3], n[4]);
            case 4: return x.need(n[0], n[1], n[2], n[3]);
            case 5: return x.word(n[0], n[1], n[2], n[3]);
            case 6: return x.item(n[0], n[1]);
            case 7: return x.row(n[0], n[1], n[2]);
            case 8: return x.open(n[0]);
            case 9: return x.close();
            case 10: return x.say(n[0]);
            case 11: return x.hear();
            case 12: return x.back();
            case 13: return x.act();
            case 14: return x.worst();
            case 15: return x.about(n[0], n[1], n[2]);
            case 16: return x.said(n[0], n[1], n[2]);
            case 17: return x.heard(n[0]);
            default: return x.count(n[0]);
        }
    }

    static String told(int which, int[] n) {
        StringBuilder text = new StringBuilder(NAMES[which]).append('(');
        for (int i = 0; i < PARAMETERS[which]; i++) {
            text.append(i == 0 ? "" : ", ").append(n[i]);
        }
        return text.append(')').toString();
    }
}
