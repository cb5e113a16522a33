/** A sentence of the document that names a boundary case, and the test that is its own. */
final class Sentence {
    private static int told = 0;

    private Sentence() {
    }

    /** Runs the test of a sentence, and tells the sentence if it does not hold. */
    static void holds(String sentence, Runnable test) {
        int wrong = Due.wrong();
        int asked = Due.asked();
        test.run();
        told++;
        Due.isTrue("the test asks for something", Due.asked() > asked);
        if (Due.wrong() > wrong) {
            System.out.println("DOES NOT HOLD: " + sentence);
        }
    }

    static void end() {
        System.out.println(told + " sentences of the document");
        Due.end();
    }
}
