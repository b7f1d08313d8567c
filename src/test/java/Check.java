/** Counts the answers that are due and those that are not, under the sentence of the document that asks for them. */
final class Check {
    private String sentence = "";
    private int sentences = 0;
    private int passed = 0;
    private int failed = 0;

    /** A sentence's own test: one that checks nothing shows nothing, so it fails. */
    void sentence(String text, Runnable test) {
        sentence = text;
        sentences++;
        int before = passed + failed;
        test.run();
        if (passed + failed == before) due("checks nothing", 0, 1);
    }

    void due(String what, long got, long want) {
        if (got == want) {
            passed++;
        } else {
            failed++;
            System.out.println("[" + sentence + "] " + what + ": answered " + got + ", due is " + want);
        }
    }

    /** Tells the counts; the exit code is 1 if an answer was not the one that is due. */
    void end() {
        System.out.println(sentences + " sentences, " + passed + " passed, " + failed + " failed");
        if (failed != 0) System.exit(1);
    }
}
