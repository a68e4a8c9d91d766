/** Promises 1 to 4 and 18: the fields of the rules, and how they are changed. */
public final class RulesTest {
    private static final Check CHECK = new Check();

    public static void main(String[] args) {
        aNewObjectIsFull();
        allowTakesFromAFullFieldAndAddsToAnother();
        allowGoesBySteps();
        allowTakesTheEdgesOfEveryField();
        allowRefusesInOrder();
        aRefusedCallChangesNothing();
        rulesAndFieldsStandApart();
        fillTellsWhatWas();
        fillRefuses();
        allowedKnowsTheValues();
        allowedRefuses();
        allowNeverMakesFull();
        CHECK.finish();
    }

    private static int what(int rule, int field) {
        return 8 * rule + field;
    }

    private static int span(int from, int to) {
        return 64 * from + to;
    }

    private static int countAllowed(CronCalendar x, int rule, int field) {
        int count = 0;
        for (int value = -2; value <= 65; value++) {
            count += x.allowed(rule, field, value);
        }
        return count;
    }

    private static void aNewObjectIsFull() {
        for (int rule = 0; rule < 4; rule++) {
            for (int field = 0; field < 5; field++) {
                CronCalendar x = new CronCalendar();
                int values = Fields.size(field);
                CHECK.due("new: values of " + rule + ", " + field, countAllowed(x, rule, field), values);
                CHECK.due("new: fill(" + rule + ", " + field + ")", x.fill(rule, field), 1);
            }
        }
        CronCalendar x = new CronCalendar();
        for (int rule = 0; rule < 4; rule++) {
            CHECK.due("new: fits(rule, 0)", x.fits(rule, 0), 1);
            CHECK.due("new: dueOn(rule, 59)", x.dueOn(rule, 59), 1440);
            CHECK.due("new: dueDays(rule, 0, 1000)", x.dueDays(rule, 0, 1000), 1000);
        }
    }

    private static void allowTakesFromAFullFieldAndAddsToAnother() {
        CronCalendar x = new CronCalendar();
        CHECK.due("allow 10..20", x.allow(what(0, 0), span(10, 20), 1), 11);
        CHECK.due("9 is no longer allowed", x.allowed(0, 0, 9), 0);
        CHECK.due("10 is allowed", x.allowed(0, 0, 10), 1);
        CHECK.due("20 is allowed", x.allowed(0, 0, 20), 1);
        CHECK.due("21 is no longer allowed", x.allowed(0, 0, 21), 0);
        CHECK.due("allow 19..22 as well", x.allow(what(0, 0), span(19, 22), 1), 13);
        CHECK.due("allow the same again", x.allow(what(0, 0), span(19, 22), 1), 13);
        CHECK.due("10 is still allowed", x.allowed(0, 0, 10), 1);
        CHECK.due("fill", x.fill(0, 0), 0);
        CHECK.due("allow after fill takes from it", x.allow(what(0, 0), span(5, 5), 1), 1);
        CHECK.due("10 is gone with the fill", x.allowed(0, 0, 10), 0);
    }

    private static void allowGoesBySteps() {
        CronCalendar x = new CronCalendar();
        CHECK.due("0, 15, 30, 45", x.allow(what(1, 0), span(0, 59), 15), 4);
        CHECK.due("0", x.allowed(1, 0, 0), 1);
        CHECK.due("14", x.allowed(1, 0, 14), 0);
        CHECK.due("15", x.allowed(1, 0, 15), 1);
        CHECK.due("45", x.allowed(1, 0, 45), 1);
        CHECK.due("59", x.allowed(1, 0, 59), 0);
        CHECK.due("0 and 59", new CronCalendar().allow(what(1, 0), span(0, 59), 59), 2);
        CHECK.due("1 alone", new CronCalendar().allow(what(1, 0), span(1, 59), 59), 1);
        CHECK.due("to is reached exactly", new CronCalendar().allow(what(1, 1), span(3, 9), 3), 3);
        CHECK.due("to is not reached", new CronCalendar().allow(what(1, 1), span(3, 8), 3), 2);
        CHECK.due("steps count from from", x.allow(what(1, 2), span(2, 31), 7), 5);
        CHECK.due("30", x.allowed(1, 2, 30), 1);
        CHECK.due("28", x.allowed(1, 2, 28), 0);
    }

    private static void allowTakesTheEdgesOfEveryField() {
        for (int rule = 0; rule < 4; rule++) {
            for (int field = 0; field < 5; field++) {
                CronCalendar x = new CronCalendar();
                int what = what(rule, field);
                int least = Fields.LEAST[field];
                int greatest = Fields.GREATEST[field];
                String place = "rule " + rule + ", field " + field + ": ";
                CHECK.due(place + "below", x.allow(what, span(least - 1, greatest), 1), -3);
                CHECK.due(place + "above", x.allow(what, span(least, greatest + 1), 1), -3);
                CHECK.due(place + "still full", x.fill(rule, field), 1);
                CHECK.due(place + "least", x.allow(what, span(least, least), 1), 1);
                CHECK.due(place + "greatest", x.allow(what, span(greatest, greatest), 1), 2);
                CHECK.due(place + "both are there", countAllowed(x, rule, field), 2);
                CHECK.due(place + "all", x.allow(what, span(least, greatest), 1), greatest - least + 1);
            }
        }
    }

    private static void allowRefusesInOrder() {
        CronCalendar x = new CronCalendar();
        CHECK.due("allow(-1, -1, 0)", x.allow(-1, -1, 0), -1);
        CHECK.due("allow(-8, 0, 1)", x.allow(-8, 0, 1), -1);
        CHECK.due("allow(MIN, 0, 1)", x.allow(Integer.MIN_VALUE, 0, 1), -1);
        CHECK.due("allow(MAX, 0, 1)", x.allow(Integer.MAX_VALUE, 0, 1), -1);
        CHECK.due("allow(32, 0, 1)", x.allow(32, 0, 1), -1);
        CHECK.due("rule 4, field 7", x.allow(what(4, 7), -1, 0), -1);
        for (int rule = 0; rule < 4; rule++) {
            for (int field = 5; field < 8; field++) {
                CHECK.due("rule " + rule + ", field " + field, x.allow(what(rule, field), -1, 0), -2);
            }
        }
        CHECK.due("span -1", x.allow(0, -1, 0), -3);
        CHECK.due("span -64", x.allow(0, -64, 1), -3);
        CHECK.due("span MIN", x.allow(0, Integer.MIN_VALUE, 1), -3);
        CHECK.due("span MAX", x.allow(0, Integer.MAX_VALUE, 1), -3);
        CHECK.due("from > to", x.allow(0, span(5, 4), 0), -3);
        CHECK.due("from 64 is no value", x.allow(0, span(64, 0), 1), -3);
        CHECK.due("step 0", x.allow(0, span(4, 5), 0), -4);
        CHECK.due("step 60", x.allow(0, span(4, 5), 60), -4);
        CHECK.due("step -1", x.allow(0, span(4, 5), -1), -4);
        CHECK.due("step MIN", x.allow(0, span(4, 5), Integer.MIN_VALUE), -4);
        CHECK.due("step MAX", x.allow(0, span(4, 5), Integer.MAX_VALUE), -4);
        CHECK.due("step 59", x.allow(what(0, 4), span(0, 6), 59), 1);
    }

    private static void aRefusedCallChangesNothing() {
        CronCalendar x = new CronCalendar();
        x.allow(0, span(5, 4), 1);
        x.allow(0, span(4, 60), 1);
        x.allow(0, span(4, 5), 0);
        x.allow(0, span(4, 5), 60);
        CHECK.due("the values after refused allows", countAllowed(x, 0, 0), 60);
        CHECK.due("still full after refused allows", x.fill(0, 0), 1);
        x.allow(0, span(4, 5), 1);
        x.allow(0, span(6, 60), 1);
        x.allow(0, span(6, 7), 60);
        x.fill(-1, 0);
        x.fill(4, 0);
        x.fill(0, 5);
        x.fill(0, -1);
        CHECK.due("the values after refused calls", countAllowed(x, 0, 0), 2);
        CHECK.due("not full after refused calls", x.fill(0, 0), 0);
    }

    private static void rulesAndFieldsStandApart() {
        for (int rule = 0; rule < 4; rule++) {
            for (int field = 0; field < 5; field++) {
                CronCalendar x = new CronCalendar();
                x.allow(what(rule, field), span(1, 1), 1);
                for (int r = 0; r < 4; r++) {
                    for (int f = 0; f < 5; f++) {
                        boolean changed = r == rule && f == field;
                        String call = "after allow in " + rule + ", " + field + ": fill(" + r + ", " + f + ")";
                        CHECK.due(call, x.fill(r, f), changed ? 0 : 1);
                    }
                }
            }
        }
    }

    private static void fillTellsWhatWas() {
        for (int field = 0; field < 5; field++) {
            CronCalendar x = new CronCalendar();
            x.allow(what(2, field), span(2, 3), 1);
            CHECK.due("fill of a field that was not full", x.fill(2, field), 0);
            CHECK.due("all values again", countAllowed(x, 2, field), Fields.size(field));
            CHECK.due("fill of a field that was full", x.fill(2, field), 1);
        }
    }

    private static void fillRefuses() {
        CronCalendar x = new CronCalendar();
        CHECK.due("fill(-1, 0)", x.fill(-1, 0), -1);
        CHECK.due("fill(4, 5)", x.fill(4, 5), -1);
        CHECK.due("fill(MIN, 0)", x.fill(Integer.MIN_VALUE, 0), -1);
        CHECK.due("fill(MAX, 0)", x.fill(Integer.MAX_VALUE, 0), -1);
        CHECK.due("fill(0, -1)", x.fill(0, -1), -2);
        CHECK.due("fill(3, 5)", x.fill(3, 5), -2);
        CHECK.due("fill(0, MIN)", x.fill(0, Integer.MIN_VALUE), -2);
        CHECK.due("fill(0, MAX)", x.fill(0, Integer.MAX_VALUE), -2);
    }

    private static void allowedKnowsTheValues() {
        for (int field = 0; field < 5; field++) {
            CronCalendar x = new CronCalendar();
            CHECK.due("below the least", x.allowed(3, field, Fields.LEAST[field] - 1), 0);
            CHECK.due("the least", x.allowed(3, field, Fields.LEAST[field]), 1);
            CHECK.due("the greatest", x.allowed(3, field, Fields.GREATEST[field]), 1);
            CHECK.due("above the greatest", x.allowed(3, field, Fields.GREATEST[field] + 1), 0);
            CHECK.due("MIN", x.allowed(3, field, Integer.MIN_VALUE), 0);
            CHECK.due("MAX", x.allowed(3, field, Integer.MAX_VALUE), 0);
            // A shift by the value would wrap around to one that is allowed.
            CHECK.due("2 + 64", x.allowed(3, field, 66), 0);
            CHECK.due("2 - 64", x.allowed(3, field, -62), 0);
        }
    }

    private static void allowedRefuses() {
        CronCalendar x = new CronCalendar();
        CHECK.due("allowed(-1, 0, 0)", x.allowed(-1, 0, 0), -1);
        CHECK.due("allowed(4, 5, 99)", x.allowed(4, 5, 99), -1);
        CHECK.due("allowed(MIN, 0, 0)", x.allowed(Integer.MIN_VALUE, 0, 0), -1);
        CHECK.due("allowed(MAX, 0, 0)", x.allowed(Integer.MAX_VALUE, 0, 0), -1);
        CHECK.due("allowed(0, -1, 0)", x.allowed(0, -1, 0), -2);
        CHECK.due("allowed(3, 5, 99)", x.allowed(3, 5, 99), -2);
        CHECK.due("allowed(0, MIN, 0)", x.allowed(0, Integer.MIN_VALUE, 0), -2);
        CHECK.due("allowed(0, MAX, 0)", x.allowed(0, Integer.MAX_VALUE, 0), -2);
    }

    private static void allowNeverMakesFull() {
        for (int field = 0; field < 5; field++) {
            CronCalendar x = new CronCalendar();
            int all = span(Fields.LEAST[field], Fields.GREATEST[field]);
            x.allow(what(0, field), all, 1);
            CHECK.due("all allowed at once is not full", x.fill(0, field), 0);
            for (int value = Fields.LEAST[field]; value <= Fields.GREATEST[field]; value++) {
                x.allow(what(0, field), span(value, value), 1);
            }
            CHECK.due("all allowed one by one is not full", x.fill(0, field), 0);
        }
        // All weekdays are allowed and the field is not full: one of the two is then enough.
        CronCalendar x = new CronCalendar();
        x.allow(what(0, 4), span(0, 6), 1);
        x.allow(what(0, 2), span(13, 13), 1);
        CHECK.due("every weekday or the 13th", x.dueDays(0, 0, 366), 366);
        CHECK.due("fill of the weekdays", x.fill(0, 4), 0);
        CHECK.due("the 13th alone", x.dueDays(0, 0, 366), 12);
        x.allow(what(1, 2), span(1, 31), 1);
        x.allow(what(1, 4), span(0, 0), 1);
        CHECK.due("every day of the month or Sunday", x.dueDays(1, 0, 366), 366);
        CHECK.due("fill of the days of the month", x.fill(1, 2), 0);
        CHECK.due("Sunday alone", x.dueDays(1, 0, 366), 53);
    }
}
