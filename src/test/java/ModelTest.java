import java.util.ArrayList;
import java.util.List;
import java.util.Random;

/** Drawn runs of calls, each answer held against the slow Model of the document. */
final class ModelTest {
    private static final int RUNS = 3000;
    private static final int CALLS = 512;
    /** The words above this one are YES and NO in the rich forms. */
    private static final int ANSWERS = 40;

    private final Random random;
    private final TalkKeeper keeper = new TalkKeeper();
    private final Model model = new Model();
    private final List<String> told = new ArrayList<>();
    private final int wordLimit;
    private final int rowLimit;
    private final int lineLimit;
    private final boolean isRich;
    private int calls = 0;
    private boolean wrong = false;

    private ModelTest(long seed) {
        random = new Random(seed);
        isRich = pick(4) != 0;
        wordLimit = 4 + random.nextInt(14);
        rowLimit = random.nextInt(8) == 0 ? 20 : 3 + random.nextInt(7);
        // the model makes every reading: lines of 8 words only where few rows fit
        lineLimit = rowLimit == 20 ? 3 : rowLimit == 3 ? 8 : 1 + random.nextInt(5);
    }

    public static void main(String[] args) {
        int[] seen = new int[5];
        for (int run = 0; run < RUNS && Due.wrong() < 5; run++) {
            new ModelTest(run).go(run, seen);
        }
        String[] names = {"barred lines", "hopeless forms", "doubtful lines", "confirmations",
            "lines of 8 words"};
        for (int i = 0; i < seen.length; i++) {
            System.out.println(seen[i] + " " + names[i]);
            Due.isTrue("the runs meet " + names[i], seen[i] > 100);
        }
        Due.end();
    }

    private void go(int run, int[] seen) {
        if (isRich) {
            rich(0);
            rich(1);
            call("open", pick(2));
        }
        while (calls < CALLS && !wrong) {
            if (model.count(0) == 0 || random.nextInt(90) == 0) {
                build();
            } else {
                talk(seen);
            }
        }
        if (wrong) {
            System.out.println("run " + run + ":");
            for (String call : told) {
                System.out.println("  " + call);
            }
        }
    }

    /** A form of which most lines are heard: words for its values, rows for its places. */
    private void rich(int f) {
        call("form");
        for (int p = 2 + pick(4); p > 0; p--) {
            if (pick(4) == 0) {
                call("worked", f, 2 + pick(3), pick(2), pick(2));
            } else {
                call("place", f, pick(5) == 0 ? 2 : 0, 2 + pick(3));
            }
        }
        rules(f);
        for (int p = 0; p < places(f); p++) {
            for (int v = 0; v < model.about(f, p, 4); v++) {
                call("word", f, p, v, pick(9) == 0 ? pick(20) : 4 * p + v);
            }
            if (pick(6) != 0 && model.about(f, p, 3) != 1) {
                call("item", 1, p);
                call("row", f, pick(4) == 0 ? 6 : 1 + pick(4), 0);
            }
        }
        for (int i = pick(4); i > 0; i--) {
            row(f);
        }
        for (int act = 1; act <= 2 && model.count(5) == 0; act++) {
            call("item", 0, ANSWERS + act);
            call("row", f, 1, act);
        }
    }

    private int call(String name, int... numbers) {
        int which = List.of(Calls.NAMES).indexOf(name);
        int[] n = new int[5];
        System.arraycopy(numbers, 0, n, 0, numbers.length);
        for (int i = 0; i < numbers.length; i++) {
            if (random.nextInt(150) == 0) {
                n[i] = random.nextInt(9) - 2;
            }
        }
        if (wrong || calls >= CALLS) {
            return TalkKeeper.STATE;
        }
        calls++;
        int want = Calls.call(model, which, n);
        int got = Calls.call(keeper, which, n);
        told.add(Calls.told(which, n) + " " + got);
        Due.is(Calls.told(which, n), want, got);
        wrong |= got != want;
        return want;
    }

    private int pick(int limit) {
        return random.nextInt(Math.max(1, limit));
    }

    private void build() {
        if (model.count(6) < 3 && pick(2) == 0) {
            call("form");
        }
        int f = pick(3);
        for (int i = pick(5); i > 0; i--) {
            if (pick(4) == 0) {
                call("worked", f, 2 + pick(3), pick(3), pick(3));
            } else {
                call("place", f, pick(4) == 0 ? 2 : 0, 2 + pick(3));
            }
        }
        rules(f);
        for (int i = pick(10); i > 0; i--) {
            call("word", f, pick(5), pick(4), pick(wordLimit));
        }
        for (int i = pick(5); i > 0 && model.count(7) < rowLimit; i--) {
            row(f);
        }
        call("open", f);
    }

    private int places(int f) {
        int number = 0;
        while (model.about(f, number, 4) != TalkKeeper.NONE) {
            number++;
        }
        return number;
    }

    private void rules(int f) {
        int places = places(f);
        int way = pick(4);
        int a = pick(places + (pick(9) == 0 ? 1 : 0));
        int b = pick(places + (pick(9) == 0 ? 1 : 0));
        int w = pick(2);
        for (int i = pick(7); i > 0; i--) {
            if (way == 0) {
                // one value that bars all of another place: so places come that can't be asked
                call("bar", f, a, (i - 1) % 4, b, w);
            } else if (pick(3) != 0) {
                call("bar", f, pick(places), pick(3), pick(places), pick(3));
            } else {
                call("need", f, pick(places), pick(3), pick(places));
            }
        }
    }

    private void row(int f) {
        int act = pick(4) == 0 ? 1 + pick(2) : 0;
        for (int i = pick(3) == 0 ? 1 + pick(4) : 1 + pick(2); i > 0; i--) {
            int what = pick(5);
            int p = pick(places(f) + 1);
            boolean fillable = model.about(f, p, 3) == 0 || model.about(f, p, 3) == 2;
            // an item of no use blocks all rows to come: such are rare
            if (what < 3 && act == 0 && (fillable || pick(40) == 0)) {
                call("item", 1, p);
            } else if (what == 4) {
                call("item", 2, 0);
            } else {
                call("item", 0, pick(wordLimit));
            }
        }
        int cost = pick(3) == 0 ? 6 : pick(2) == 0 ? 2 : 1 + pick(9);
        if (call("row", f, cost, act) < 0) {
            for (int other = 0; other < 3 && model.count(5) > 0; other++) {
                call("row", other, cost, 0);
            }
        }
    }

    private void talk(int[] seen) {
        int f = model.count(1);
        int way = pick(40);
        if (way < 20) {
            for (int i = 1 + pick(lineLimit); i > 0 && model.count(4) < lineLimit; i--) {
                call("say", pick(isRich ? 4 * places(f) + 1 : wordLimit));
            }
            seen[4] += model.count(4) == 8 ? 1 : 0;
            call("hear");
            look(f, seen);
        } else if (way < 27) {
            int act = call("act");
            if (act >= 100 && act < 200 && pick(3) != 0) {
                seen[3]++;
                call("say", ANSWERS + 1 + pick(2));
                call("hear");
                look(f, seen);
            }
        } else if (way < 32) {
            seen[1] += call("worst") == 100 ? 1 : 0;
        } else if (way < 34) {
            call("back");
        } else if (way < 36) {
            look(f, seen);
        } else if (way == 36 && pick(6) == 0) {
            call("close");
        } else if (way == 37 && pick(6) == 0) {
            call("open", pick(3));
        } else if (way == 38 && model.count(7) < rowLimit) {
            row(f);
        } else {
            call("word", f, pick(5), pick(4), pick(wordLimit));
            call("said", f, pick(5), pick(4));
        }
    }

    private void look(int f, int[] seen) {
        for (int what = 0; what < 5; what++) {
            int got = call("heard", what);
            seen[0] += what == 4 && got >= 0 ? 1 : 0;
            seen[2] += what == 3 && got > 1 ? 1 : 0;
        }
        for (int p = 0; model.about(f, p, 4) != TalkKeeper.NONE; p++) {
            call("about", f, p, 0);
            call("about", f, p, 1 + pick(2));
        }
        call("count", pick(8));
        call("about", pick(3), pick(5), pick(5));
    }
}
