/** Counts what is not as due, and prints it. */
final class Check {
    private int looked;
    private int wrong;
    private int lookedBefore;
    private String sentence = "";

    /** From here on a sentence of the document is looked at: its promise's number, and its words. */
    void sentence(String words) {
        endSentence();
        sentence = words + " / ";
        lookedBefore = looked;
    }

    void same(String what, long got, long want) {
        looked++;
        if (got != want) {
            tell(what + " answered " + got + ", due is " + want);
        }
    }

    void same(String what, String got, String want) {
        looked++;
        if (!got.equals(want)) {
            tell(what + " is " + got + ", due is " + want);
        }
    }

    void yes(String what, boolean is) {
        looked++;
        if (!is) {
            tell(what + " is not so");
        }
    }

    void no(String what, boolean is) {
        looked++;
        if (is) {
            tell(what + " is so");
        }
    }

    int wrong() {
        return wrong;
    }

    void close(String test) {
        endSentence();
        System.out.println(test + ": " + looked + " answers, " + wrong + " not as due");
        if (wrong != 0 || looked == 0) {
            System.exit(1);
        }
    }

    /** A sentence that nothing was looked at for is not tested, though it seems to be. */
    private void endSentence() {
        if (!sentence.isEmpty() && looked == lookedBefore) {
            tell("nothing was looked at");
        }
    }

    private void tell(String line) {
        wrong++;
        if (wrong <= 40) {
            System.out.println(sentence + line);
        }
    }
}
