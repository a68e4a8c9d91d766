/** Compares answers with the ones that are due, and ends the test with exit code 1 if one differs. */
final class Check {
    private static final int MOST_SHOWN = 20;
    private static final long MOST_MILLISECONDS = 300_000;

    private int wrong = 0;
    private int made = 0;
    private String sentence = "";
    private int madeBeforeSentence = -1;

    Check() {
        Thread watch = new Thread(Check::failIfLate);
        watch.setDaemon(true);
        watch.start();
    }

    // A call that does not end would otherwise keep the test from ever failing.
    private static void failIfLate() {
        try {
            Thread.sleep(MOST_MILLISECONDS);
        } catch (InterruptedException e) {
            return;
        }
        System.out.println("the test did not end in time");
        System.exit(1);
    }

    /** Names the words of the document that the answers from here on stand for. */
    void sentence(String words) {
        endSentence();
        sentence = words;
        madeBeforeSentence = made;
    }

    void due(String call, long got, long want) {
        made++;
        if (got != want) {
            tell(call + " answered " + got + ", due is " + want);
        }
    }

    void same(String call, String got, String want) {
        made++;
        if (!got.equals(want)) {
            tell(call + ": there is\n" + got + "but due is\n" + want);
        }
    }

    void finish() {
        endSentence();
        System.out.println(made + " answers looked at, " + wrong + " not as due");
        // A test that looked at nothing has shown nothing.
        if (wrong != 0 || made == 0) {
            System.exit(1);
        }
    }

    private void endSentence() {
        if (made == madeBeforeSentence) {
            tell("no answer was looked at");
        }
    }

    private void tell(String what) {
        wrong++;
        if (wrong <= MOST_SHOWN) {
            System.out.println((sentence.isEmpty() ? "" : "\"" + sentence + "\": ") + what);
        }
    }
}
