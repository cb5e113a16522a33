import java.util.ArrayList;
import java.util.List;
import java.util.Random;

/** Part 4 of the terms: of several refusals the first one told, and they change nothing. */
final class BoundaryRefusalTest {
    private static final int NONE = Talks.NONE, BAD = Talks.BAD, STATE = Talks.STATE, FULL = Talks.FULL;
    private static final int RUNS = 400;
    private static final int CALLS = 400;
    /** For each call, how far its numbers are drawn: one beyond what there can be. */
    private static final int[][] LIMITS = {{}, {4, 4, 6}, {4, 6, 4, 4}, {4, 5, 4, 5, 4}, {4, 5, 4, 5}, {4, 5, 4, 16},
        {4, 5}, {4, 11, 4}, {4}, {}, {16}, {}, {}, {}, {}, {4, 6, 6}, {4, 6, 5}, {6}, {9}};
    /** How often each call comes, of the sum of these. */
    private static final int[] WEIGHTS = {2, 6, 3, 4, 3, 16, 16, 12, 4, 1, 40, 24, 5, 12, 2, 1, 1, 1, 1};

    public static void main(String[] args) {
        Sentence.holds("of several the first one told: place", BoundaryRefusalTest::place);
        Sentence.holds("of several the first one told: worked", BoundaryRefusalTest::worked);
        Sentence.holds("of several the first one told: bar", BoundaryRefusalTest::bar);
        Sentence.holds("of several the first one told: need", BoundaryRefusalTest::need);
        Sentence.holds("of several the first one told: word", BoundaryRefusalTest::word);
        Sentence.holds("of several the first one told: item", BoundaryRefusalTest::item);
        Sentence.holds("of several the first one told: row", BoundaryRefusalTest::row);
        Sentence.holds("of several the first one told: say", BoundaryRefusalTest::say);
        Sentence.holds("They change nothing", BoundaryRefusalTest::changeNothing);
        Sentence.holds("They change nothing: a call that looks does not, either", BoundaryRefusalTest::lookingChangesNothing);
        Sentence.end();
    }

    /** A form with two plain places, a worked one and two plain ones: it is full. */
    private static TalkKeeper full() {
        TalkKeeper x = new TalkKeeper();
        Talks.form(x, 2, 2);
        x.worked(0, 4, 0, 1);
        x.place(0, 0, 2);
        x.place(0, 0, 2);
        return x;
    }

    private static void place() {
        TalkKeeper x = full();
        Due.is("NONE and BAD", NONE, x.place(1, 1, 2));
        Due.is("NONE and BAD", NONE, x.place(1, 0, 5));
        Due.is("BAD and FULL: kind", BAD, x.place(0, 1, 2));
        Due.is("BAD and FULL: n", BAD, x.place(0, 0, 5));
        x.open(0);
        Due.is("BAD, STATE and FULL: kind", BAD, x.place(0, 3, 2));
        Due.is("BAD, STATE and FULL: n", BAD, x.place(0, 2, 1));
        Due.is("STATE and FULL", STATE, x.place(0, 0, 2));
        x.close();
        Due.is("FULL", FULL, x.place(0, 0, 2));
    }

    private static void worked() {
        TalkKeeper x = full();
        Due.is("NONE and BAD: form, n", NONE, x.worked(1, 5, 0, 0));
        Due.is("NONE, BAD and FULL: a, n", NONE, x.worked(0, 5, 5, 0));
        Due.is("NONE, BAD and FULL: b, n", NONE, x.worked(0, 1, 0, 5));
        Due.is("NONE, BAD and FULL: a WORKED, no b", NONE, x.worked(0, 2, 2, 5));
        Due.is("NONE, BAD and FULL: no a, b WORKED", NONE, x.worked(0, 2, -1, 2));
        Due.is("BAD and FULL: n", BAD, x.worked(0, 5, 0, 1));
        Due.is("BAD and FULL: a", BAD, x.worked(0, 2, 2, 1));
        Due.is("BAD and FULL: b", BAD, x.worked(0, 2, 1, 2));
        x.open(0);
        Due.is("NONE, STATE and FULL", NONE, x.worked(0, 2, 5, 0));
        Due.is("BAD, STATE and FULL", BAD, x.worked(0, 2, 2, 0));
        Due.is("STATE and FULL", STATE, x.worked(0, 2, 0, 1));
        x.close();
        Due.is("FULL", FULL, x.worked(0, 2, 0, 1));
    }

    private static TalkKeeper fullOfRules() {
        TalkKeeper x = full();
        for (int r = 0; r < 6; r++) {
            x.bar(0, 0, 0, 1, 0);
        }
        return x;
    }

    private static void bar() {
        TalkKeeper x = fullOfRules();
        Due.is("NONE and BAD: form", NONE, x.bar(1, 0, 0, 0, 0));
        Due.is("NONE and BAD: no such PLACE twice", NONE, x.bar(0, 5, 0, 5, 0));
        Due.is("NONE and BAD: v", NONE, x.bar(0, 0, 2, 0, 0));
        Due.is("NONE and BAD: w", NONE, x.bar(0, 0, 0, 0, 2));
        Due.is("NONE and FULL", NONE, x.bar(0, 0, 0, 1, 2));
        Due.is("BAD and FULL", BAD, x.bar(0, 0, 0, 0, 1));
        x.open(0);
        Due.is("NONE, BAD, STATE and FULL", NONE, x.bar(0, 0, -1, 0, 0));
        Due.is("NONE, STATE and FULL", NONE, x.bar(0, 0, 0, 5, 0));
        Due.is("BAD, STATE and FULL", BAD, x.bar(0, 1, 0, 1, 0));
        Due.is("STATE and FULL", STATE, x.bar(0, 0, 0, 1, 0));
        x.close();
        Due.is("FULL", FULL, x.bar(0, 0, 0, 1, 0));
    }

    private static void need() {
        TalkKeeper x = fullOfRules();
        Due.is("NONE and BAD: form", NONE, x.need(1, 0, 0, 0));
        Due.is("NONE and BAD: no such PLACE twice", NONE, x.need(0, 5, 0, 5));
        Due.is("NONE and BAD: v, a is b", NONE, x.need(0, 0, 2, 0));
        Due.is("NONE and BAD: v, b is WORKED", NONE, x.need(0, 0, 2, 2));
        Due.is("NONE and FULL", NONE, x.need(0, 0, 0, 5));
        Due.is("BAD and FULL: a is b", BAD, x.need(0, 0, 0, 0));
        Due.is("BAD and FULL: b is WORKED", BAD, x.need(0, 0, 0, 2));
        x.open(0);
        Due.is("NONE, BAD, STATE and FULL", NONE, x.need(0, 0, -1, 0));
        Due.is("NONE, STATE and FULL", NONE, x.need(0, 5, 0, 0));
        Due.is("BAD, STATE and FULL: a is b", BAD, x.need(0, 1, 0, 1));
        Due.is("BAD, STATE and FULL: b is WORKED", BAD, x.need(0, 1, 0, 2));
        Due.is("STATE and FULL", STATE, x.need(0, 0, 0, 1));
        x.close();
        Due.is("FULL", FULL, x.need(0, 0, 0, 1));
    }

    private static void word() {
        TalkKeeper x = full();
        x.word(0, 0, 0, 9);
        Due.is("NONE and BAD: value", NONE, x.word(0, 2, 4, 8));
        Due.is("NONE and BAD: word", NONE, x.word(0, 2, 0, 64));
        Due.is("NONE, BAD and STATE: value", NONE, x.word(0, 2, 4, 9));
        Due.is("NONE and STATE: form", NONE, x.word(1, 0, 0, 9));
        Due.is("NONE and STATE: place", NONE, x.word(0, 5, 0, 9));
        Due.is("NONE and STATE: value", NONE, x.word(0, 0, 2, 9));
        Due.is("BAD and STATE", BAD, x.word(0, 2, 0, 9));
        Due.is("STATE", STATE, x.word(0, 1, 0, 9));
    }

    private static void item() {
        TalkKeeper x = full();
        for (int i = 0; i < 4; i++) {
            x.item(2, 0);
        }
        Due.is("BAD and FULL: what", BAD, x.item(3, 0));
        Due.is("BAD and FULL: word", BAD, x.item(0, 64));
        Due.is("BAD and FULL: place", BAD, x.item(1, 5));
        Due.is("BAD and FULL: star", BAD, x.item(2, 1));
        Due.is("FULL", FULL, x.item(2, 0));
    }

    private static void row() {
        TalkKeeper x = full();
        Due.is("NONE and STATE", NONE, x.row(1, 1, 0));
        Due.is("NONE, BAD and STATE", NONE, x.row(1, 0, 3));
        Due.is("BAD and STATE: cost", BAD, x.row(0, 10, 0));
        Due.is("BAD and STATE: act", BAD, x.row(0, 1, 3));
        for (int r = 0; r < 20; r++) {
            Talks.row(x, 0, 1, 0, 1);
        }
        Due.is("NONE, STATE and FULL", NONE, x.row(1, 1, 0));
        Due.is("BAD, STATE and FULL", BAD, x.row(0, 0, 0));
        Due.is("STATE and FULL", STATE, x.row(0, 1, 0));
        x.form();
        x.place(1, 0, 2);
        x.item(1, 0);
        Due.is("FULL", FULL, x.row(0, 1, 0));
        Due.is("BAD and FULL: a YES with a PLACE", BAD, x.row(0, 1, 1));
        Due.is("NONE and FULL: form", NONE, x.row(2, 1, 0));
        x.item(1, 2);
        Due.is("BAD and FULL: a WORKED PLACE", BAD, x.row(0, 1, 0));
        Due.is("NONE and FULL: a PLACE it has not", NONE, x.row(1, 1, 0));
        Due.is("NONE, BAD and FULL: that, and cost", NONE, x.row(1, 0, 0));
        Due.is("NONE, BAD and FULL: that, and act", NONE, x.row(1, 1, 3));
        Due.is("NONE, BAD and FULL: that, and NO", NONE, x.row(1, 1, 2));
    }

    private static void say() {
        TalkKeeper x = full();
        for (int i = 0; i < 8; i++) {
            x.say(1);
        }
        Due.is("NONE and FULL: 64", NONE, x.say(64));
        Due.is("NONE and FULL: -1", NONE, x.say(-1));
        Due.is("FULL", FULL, x.say(0));
    }

    // ---- they change nothing

    /** Each run is made a second time without the calls that were refused: all answers stay. */
    private static void changeNothing() {
        int refused = 0;
        int taken = 0;
        for (int run = 0; run < RUNS; run++) {
            List<int[]> calls = drawn(new Random(run));
            TalkKeeper x = new TalkKeeper();
            TalkKeeper y = new TalkKeeper();
            for (int[] call : calls) {
                int got = Calls.call(x, call[0], numbers(call));
                boolean isRefused = got < 0 && !looks(call[0]);
                refused += isRefused ? 1 : 0;
                taken += isRefused ? 0 : 1;
                if (!isRefused) {
                    String told = "run " + run + ", " + Calls.told(call[0], numbers(call)) + " without the refused calls";
                    Due.is(told, got, Calls.call(y, call[0], numbers(call)));
                }
            }
            sameLooks("run " + run, x, y);
        }
        Due.isTrue("many calls were refused: " + refused, refused > 20000);
        Due.isTrue("many calls were taken: " + taken, taken > 20000);
    }

    /** The same without the calls that look. */
    private static void lookingChangesNothing() {
        for (int run = 0; run < RUNS; run++) {
            List<int[]> calls = drawn(new Random(run));
            TalkKeeper x = new TalkKeeper();
            TalkKeeper y = new TalkKeeper();
            for (int[] call : calls) {
                if (!looks(call[0])) {
                    String told = "run " + run + ", " + Calls.told(call[0], numbers(call)) + " with looks";
                    Due.is(told, Calls.call(y, call[0], numbers(call)), Calls.call(x, call[0], numbers(call)));
                }
                x.worst();
                x.about(call[1] % 4, call[2] % 6, call[3] % 6);
                x.said(call[1] % 4, call[2] % 6, call[3] % 5);
                x.heard(call[1] % 6);
                x.count(call[1] % 9);
            }
            sameLooks("run " + run, x, y);
        }
    }

    private static boolean looks(int which) {
        return which >= 14;
    }

    private static int[] numbers(int[] call) {
        int[] numbers = new int[5];
        System.arraycopy(call, 1, numbers, 0, 5);
        return numbers;
    }

    /** A run: a form that can be spoken of, and then calls of all kinds. */
    private static List<int[]> drawn(Random random) {
        List<int[]> calls = new ArrayList<>();
        calls.add(new int[] {0, 0, 0, 0, 0, 0});
        for (int p = 0; p < 3; p++) {
            calls.add(new int[] {1, 0, p == 2 ? 2 : 0, 2 + random.nextInt(3), 0, 0});
            calls.add(new int[] {6, 1, p, 0, 0, 0});
            calls.add(new int[] {7, 0, random.nextBoolean() ? 6 : 2, 0, 0, 0});
            for (int v = 0; v < 4; v++) {
                calls.add(new int[] {5, 0, p, v, 4 * p + v, 0});
            }
        }
        for (int act = 1; act <= 2; act++) {
            calls.add(new int[] {6, 0, 12 + act, 0, 0, 0});
            calls.add(new int[] {7, 0, 1, act, 0, 0});
        }
        calls.add(new int[] {2, 0, 3, 0, 1, 0});
        calls.add(new int[] {3, 0, random.nextInt(2), random.nextInt(2), 2 + random.nextInt(2), random.nextInt(2)});
        calls.add(new int[] {8, 0, 0, 0, 0, 0});
        while (calls.size() < CALLS) {
            calls.add(oneCall(random));
        }
        return calls;
    }

    private static int[] oneCall(Random random) {
        int sum = 0;
        for (int weight : WEIGHTS) {
            sum += weight;
        }
        int at = random.nextInt(sum);
        int which = 0;
        while (at >= WEIGHTS[which]) {
            at -= WEIGHTS[which];
            which++;
        }
        int[] call = new int[6];
        call[0] = which;
        for (int i = 0; i < LIMITS[which].length; i++) {
            call[1 + i] = random.nextInt(LIMITS[which][i]);
        }
        return call;
    }

    private static void sameLooks(String when, TalkKeeper x, TalkKeeper y) {
        for (int f = 0; f < 3; f++) {
            for (int p = 0; p < 5; p++) {
                for (int what = 0; what < 5; what++) {
                    Due.is(when + ": about", x.about(f, p, what), y.about(f, p, what));
                    Due.is(when + ": said", x.said(f, p, what), y.said(f, p, what));
                }
            }
        }
        for (int what = 0; what < 8; what++) {
            Due.is(when + ": heard", x.heard(what), y.heard(what));
            Due.is(when + ": count", x.count(what), y.count(what));
        }
    }
}
