/** Counts the answers that are not the ones that are due, and ends a test. */
final class Due {
    private static int wrong = 0;
    private static int asked = 0;

    private Due() {
    }

    static void is(String call, long want, long got) {
        asked++;
        if (got != want) {
            wrong++;
            System.out.println(call + " answered " + got + ", due is " + want);
        }
    }

    static void isTrue(String what, boolean holds) {
        is(what, 1, holds ? 1 : 0);
    }

    static int wrong() {
        return wrong;
    }

    static int asked() {
        return asked;
    }

    static void end() {
        System.out.println(wrong == 0 ? asked + " answers are as due" : wrong + " of " + asked + " answers are not as due");
        System.exit(wrong == 0 ? 0 : 1);
    }
}
