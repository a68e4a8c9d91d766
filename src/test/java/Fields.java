import java.util.function.Consumer;

/** The fields of the rules as the document tells them, and how a test speaks of them. */
final class Fields {
    static final int MINUTES = 0;
    static final int HOURS = 1;
    static final int MONTH_DAYS = 2;
    static final int MONTHS = 3;
    static final int WEEKDAYS = 4;

    static final int[] LEAST = {0, 0, 1, 1, 0};
    static final int[] GREATEST = {59, 23, 31, 12, 6};

    private Fields() {
    }

    static int what(int rule, int field) {
        return 8 * rule + field;
    }

    static int span(int from, int to) {
        return 64 * from + to;
    }

    static int size(int field) {
        return GREATEST[field] - LEAST[field] + 1;
    }

    static void allowAll(CronCalendar x, int rule, int field) {
        x.allow(what(rule, field), span(LEAST[field], GREATEST[field]), 1);
    }

    static void allowOnly(CronCalendar x, int rule, int field, int value) {
        x.fill(rule, field);
        x.allow(what(rule, field), span(value, value), 1);
    }

    /**
     * All that can be told from outside of the fields after these calls on a new object: one line for
     * each field, with its values and whether it is full.
     */
    static String after(Consumer<CronCalendar> calls) {
        StringBuilder text = new StringBuilder();
        for (int rule = 0; rule < 4; rule++) {
            // A new object for each rule, because an object is good for 512 calls.
            CronCalendar x = new CronCalendar();
            calls.accept(x);
            for (int field = 0; field < 5; field++) {
                text.append("rule ").append(rule).append(", field ").append(field).append(": ");
                text.append(values(x, rule, field));
                // Asked last, because fill is the only call that tells it, and it changes the field.
                text.append(x.fill(rule, field) == 1 ? "full\n" : "not full\n");
            }
        }
        return text.toString();
    }

    private static String values(CronCalendar x, int rule, int field) {
        StringBuilder text = new StringBuilder();
        for (int value = LEAST[field]; value <= GREATEST[field]; value++) {
            text.append(x.allowed(rule, field, value) == 1 ? value + " " : "");
        }
        return text.toString();
    }
}
