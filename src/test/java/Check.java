/** Compares answers with the ones that are due, and ends the test with exit code 1 if one differs. */
final class Check {
    private static final int MOST_SHOWN = 20;

    private int wrong = 0;
    private int made = 0;

    void due(String call, long got, long want) {
        made++;
        if (got == want) {
            return;
        }
        wrong++;
        if (wrong <= MOST_SHOWN) {
            System.out.println(call + " answered " + got + ", due is " + want);
        }
    }

    void finish() {
        System.out.println(made + " answers looked at, " + wrong + " not as due");
        // A test that looked at nothing has shown nothing.
        if (wrong != 0 || made == 0) {
            System.exit(1);
        }
    }
}
