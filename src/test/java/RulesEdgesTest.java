/** Promises 1 to 4 and 18, sentence by sentence: the edges that they name. */
public final class RulesEdgesTest {
    private static final Check CHECK = new Check();
    private static final long LAST_MINUTE = 210379679L;
    private static final int[] BAD_RULES = {-1, 4, -4, 8, Integer.MIN_VALUE, Integer.MAX_VALUE};
    private static final int[] BAD_FIELDS = {-1, 5, 7, 8, -8, Integer.MIN_VALUE, Integer.MAX_VALUE};

    public static void main(String[] args) {
        allFieldsAreFullAtFirst();
        allMinutesFitAtFirst();
        bothMustBeAllowedAtFirst();
        allowTakesStepsUpToTo();
        allowTakesStepsOf1To59();
        allowTakesOneValue();
        allowInAFieldThatWasFull();
        allowInAFieldThatWasNotFull();
        allowAnswersHowMany();
        allowRefusesRules();
        allowRefusesFields();
        allowRefusesValues();
        allowRefusesNegativeSpans();
        allowRefusesSteps();
        fillMakesFull();
        fillRefuses();
        allowedTellsValues();
        allowedOfNoValue();
        allowedRefuses();
        allowNeverMakesFull();
        allowAfterAllValuesAddsToThem();
        allWeekdaysBehindAllow();
        allMonthDaysBehindAllow();
        bothOfThemBehindAllow();
        minutesHoursAndMonthsBehindAllow();
        CHECK.finish();
    }

    private static int what(int rule, int field) {
        return Fields.what(rule, field);
    }

    private static int span(int from, int to) {
        return Fields.span(from, to);
    }

    private static String told(int what, int span, int step) {
        return "allow(" + what + ", " + span + ", " + step + ")";
    }

    // ---- promise 1 ----

    private static void allFieldsAreFullAtFirst() {
        CHECK.sentence("All fields of all rules are full");
        for (int rule = 0; rule < 4; rule++) {
            CronCalendar x = new CronCalendar();
            for (int field = 0; field < 5; field++) {
                for (int value = Fields.LEAST[field]; value <= Fields.GREATEST[field]; value++) {
                    CHECK.due("allowed(" + rule + ", " + field + ", " + value + ")", x.allowed(rule, field, value), 1);
                }
                CHECK.due("fill(" + rule + ", " + field + ")", x.fill(rule, field), 1);
            }
        }
    }

    private static void allMinutesFitAtFirst() {
        CronCalendar x = new CronCalendar();
        for (int rule = 0; rule < 4; rule++) {
            CHECK.due("fits, the first", x.fits(rule, 0), 1);
            CHECK.due("fits, the last", x.fits(rule, LAST_MINUTE), 1);
            CHECK.due("next", x.next(rule, 12345678), 12345679);
            CHECK.due("previous", x.previous(rule, 12345678), 12345677);
            CHECK.due("dueOn", x.dueOn(rule, 12345), 1440);
            CHECK.due("dueDays", x.dueDays(rule, 12345, 1000), 1000);
        }
    }

    // Fields 2 and 4 with all values, but not full, would let every day fit here.
    private static void bothMustBeAllowedAtFirst() {
        for (int rule = 0; rule < 4; rule++) {
            CronCalendar x = new CronCalendar();
            x.allow(what(rule, Fields.MONTH_DAYS), span(13, 13), 1);
            CHECK.due("only the 13th, rule " + rule, x.dueDays(rule, 0, 366), 12);
            CronCalendar y = new CronCalendar();
            y.allow(what(rule, Fields.WEEKDAYS), span(5, 5), 1);
            CHECK.due("only Fridays, rule " + rule, y.dueDays(rule, 0, 366), 52);
        }
    }

    // ---- promise 2 ----

    private static void valuesAre(CronCalendar x, int rule, int field, int... want) {
        StringBuilder got = new StringBuilder();
        StringBuilder due = new StringBuilder();
        for (int value = -1; value <= 64; value++) {
            got.append(x.allowed(rule, field, value) == 1 ? value + " " : "");
        }
        for (int value : want) {
            due.append(value).append(" ");
        }
        CHECK.same("the values of rule " + rule + ", field " + field, got + "\n", due + "\n");
    }

    private static void allowTakesStepsUpToTo() {
        CHECK.sentence("Allows the values from, from + step, from + 2 * step, .. up to to in a field");
        CronCalendar x = new CronCalendar();
        CHECK.due("to is a step", x.allow(what(0, 0), span(10, 30), 10), 3);
        valuesAre(x, 0, 0, 10, 20, 30);
        CHECK.due("to is one before a step", x.allow(what(1, 0), span(10, 29), 10), 2);
        valuesAre(x, 1, 0, 10, 20);
        CHECK.due("to is one behind a step", x.allow(what(2, 0), span(10, 31), 10), 3);
        valuesAre(x, 2, 0, 10, 20, 30);
        CHECK.due("the step leads behind to", x.allow(what(3, 0), span(10, 30), 21), 1);
        valuesAre(x, 3, 0, 10);
    }

    private static void allowTakesStepsOf1To59() {
        CronCalendar x = new CronCalendar();
        CHECK.due("step 59 over all minutes", x.allow(what(0, 0), span(0, 59), 59), 2);
        valuesAre(x, 0, 0, 0, 59);
        CHECK.due("step 58 over all minutes", x.allow(what(1, 0), span(0, 59), 58), 2);
        valuesAre(x, 1, 0, 0, 58);
        CHECK.due("step 59 from 1", x.allow(what(2, 0), span(1, 59), 59), 1);
        valuesAre(x, 2, 0, 1);
        CHECK.due("step 1", x.allow(what(3, 0), span(57, 59), 1), 3);
        valuesAre(x, 3, 0, 57, 58, 59);
        // A step may be greater than every value of the field.
        for (int field = 1; field < 5; field++) {
            CronCalendar y = new CronCalendar();
            CHECK.due("step 59 in field " + field, y.allow(what(0, field), span(1, Fields.GREATEST[field]), 59), 1);
            valuesAre(y, 0, field, 1);
        }
    }

    private static void allowTakesOneValue() {
        CHECK.sentence("from <= to");
        for (int field = 0; field < 5; field++) {
            for (int value = Fields.LEAST[field]; value <= Fields.GREATEST[field]; value++) {
                CronCalendar x = new CronCalendar();
                int step = value % 2 == 0 ? 1 : 59;
                CHECK.due("from = to = " + value, x.allow(what(2, field), span(value, value), step), 1);
                valuesAre(x, 2, field, value);
            }
        }
    }

    private static void allowInAFieldThatWasFull() {
        CHECK.sentence("if the field was full, just these are allowed then");
        for (int rule = 0; rule < 4; rule++) {
            for (int field = 0; field < 5; field++) {
                CronCalendar x = new CronCalendar();
                CHECK.due("new", x.allow(what(rule, field), span(2, 5), 3), 2);
                valuesAre(x, rule, field, 2, 5);
                x.fill(rule, field);
                CHECK.due("filled", x.allow(what(rule, field), span(3, 3), 1), 1);
                valuesAre(x, rule, field, 3);
            }
        }
    }

    private static void allowInAFieldThatWasNotFull() {
        CHECK.sentence("otherwise these as well as those allowed before");
        for (int rule = 0; rule < 4; rule++) {
            for (int field = 0; field < 5; field++) {
                CronCalendar x = new CronCalendar();
                x.allow(what(rule, field), span(2, 5), 3);
                CHECK.due("others", x.allow(what(rule, field), span(4, 4), 1), 3);
                CHECK.due("some others", x.allow(what(rule, field), span(4, 6), 1), 4);
                CHECK.due("no others", x.allow(what(rule, field), span(2, 6), 2), 4);
                valuesAre(x, rule, field, 2, 4, 5, 6);
            }
        }
    }

    private static void allowAnswersHowMany() {
        CHECK.sentence("otherwise answers how many values are allowed in the field now");
        for (int field = 0; field < 5; field++) {
            CronCalendar x = new CronCalendar();
            int many = 0;
            for (int value = Fields.GREATEST[field]; value >= Fields.LEAST[field]; value--) {
                many++;
                CHECK.due("up to " + value, x.allow(what(1, field), span(value, value), 1), many);
                CHECK.due("again", x.allow(what(1, field), span(value, value), 59), many);
            }
            CHECK.due("all of them", x.allow(what(1, field), span(Fields.LEAST[field], Fields.GREATEST[field]), 1), many);
            CHECK.due("as many as the field has", many, Fields.size(field));
            CHECK.due("of another rule", x.allow(what(2, field), span(3, 3), 1), 1);
        }
    }

    private static void allowRefusesRules() {
        CHECK.sentence("what is 8 * rule + field (negative numbers are the case of -1)");
        CronCalendar x = new CronCalendar();
        // The last ones have, in their low bits, the look of good ones.
        int[] bad = {
            32, 33, 36, 39, 40, 64, 256, 1 << 20, Integer.MAX_VALUE, Integer.MAX_VALUE - 7,
            -1, -3, -4, -5, -7, -8, -9, -28, -32, -64, Integer.MIN_VALUE, Integer.MIN_VALUE + 12, (1 << 30) + 12
        };
        for (int what : bad) {
            CHECK.due(told(what, span(2, 3), 1), x.allow(what, span(2, 3), 1), -1);
        }
        CHECK.due("the greatest good one", x.allow(28, span(2, 3), 1), 2);
        CHECK.due("the least good one", x.allow(0, span(2, 3), 1), 2);
    }

    private static void allowRefusesFields() {
        CHECK.sentence("-2 if field is not good");
        CronCalendar x = new CronCalendar();
        for (int what : new int[] {5, 6, 7, 13, 14, 15, 21, 22, 23, 29, 30, 31}) {
            CHECK.due(told(what, span(2, 3), 1), x.allow(what, span(2, 3), 1), -2);
        }
        for (int what : new int[] {4, 8, 12, 16, 20, 24, 28}) {
            CHECK.due(told(what, span(2, 3), 1), x.allow(what, span(2, 3), 1), 2);
        }
    }

    private static void allowRefusesValues() {
        CHECK.sentence("-3 unless from and to are values of the field and from <= to");
        for (int field = 0; field < 5; field++) {
            int least = Fields.LEAST[field];
            int greatest = Fields.GREATEST[field];
            CronCalendar x = new CronCalendar();
            int[][] bad = {
                {least - 1, least - 1}, {least - 1, least}, {least - 1, greatest},
                {least, greatest + 1}, {greatest, greatest + 1}, {greatest + 1, greatest + 1},
                {greatest + 1, greatest}, {least, 63}, {63, 63}, {64, greatest}, {64 + least, least}, {64 + 3, 4},
                {128 + 3, 4}, {1024 + 3, 4}, {33554431, greatest},
                {least + 1, least}, {greatest, greatest - 1}, {greatest, least}, {4, 3},
            };
            for (int[] pair : bad) {
                int span = span(pair[0], pair[1]);
                CHECK.due(told(field, span, 1), x.allow(field, span, 1), -3);
                CHECK.due(told(field, span, 59), x.allow(field, span, 59), -3);
            }
            CHECK.due("from the first to the last", x.allow(field, span(least, greatest), 1), Fields.size(field));
        }
    }

    private static void allowRefusesNegativeSpans() {
        CHECK.sentence("span is 64 * from + to (negative ones the case of -3)");
        // Some of them have, in their low bits or with the other sign, the look of good ones.
        int[] bad = {
            -1, -2, -3, -63, -64, -65, -span(2, 2), -span(2, 3), -span(3, 2), -4096, -4096 + span(2, 3),
            -8192 + span(2, 3), Integer.MIN_VALUE, Integer.MIN_VALUE + span(2, 3), Integer.MIN_VALUE + 3
        };
        for (int field = 0; field < 5; field++) {
            CronCalendar x = new CronCalendar();
            for (int span : bad) {
                CHECK.due(told(field, span, 1), x.allow(field, span, 1), -3);
            }
        }
        CHECK.due("span 0", new CronCalendar().allow(0, 0, 1), 1);
    }

    private static void allowRefusesSteps() {
        CHECK.sentence("-4 if step is not in 1 .. 59");
        int[] bad = {0, 60, 61, 64, 65, -1, -59, -60, Integer.MIN_VALUE, Integer.MIN_VALUE + 1, Integer.MAX_VALUE};
        for (int field = 0; field < 5; field++) {
            CronCalendar x = new CronCalendar();
            for (int step : bad) {
                CHECK.due(told(field, span(2, 3), step), x.allow(field, span(2, 3), step), -4);
                CHECK.due(told(field, span(2, 2), step), x.allow(field, span(2, 2), step), -4);
            }
            CHECK.due("step 59", x.allow(field, span(2, 3), 59), 1);
            CHECK.due("step 1", x.allow(field, span(2, 3), 1), 2);
        }
    }

    // ---- promise 3 ----

    private static void fillMakesFull() {
        CHECK.sentence("Makes a field full .. 1 if it was full before, else 0");
        for (int rule = 0; rule < 4; rule++) {
            for (int field = 0; field < 5; field++) {
                CronCalendar x = new CronCalendar();
                CHECK.due("new", x.fill(rule, field), 1);
                CHECK.due("again", x.fill(rule, field), 1);
                x.allow(what(rule, field), span(3, 3), 1);
                CHECK.due("one value", x.fill(rule, field), 0);
                CHECK.due("full by fill", x.fill(rule, field), 1);
                Fields.allowAll(x, rule, field);
                CHECK.due("all values", x.fill(rule, field), 0);
                CHECK.due("full by fill again", x.fill(rule, field), 1);
                x.allow(what(rule, field), span(3, 3), 60);
                CHECK.due("after a refused allow", x.fill(rule, field), 1);
            }
        }
        String unused = Fields.after(x -> { });
        CHECK.same("all values again", Fields.after(RulesEdgesTest::allowAndFill), unused);
    }

    private static void allowAndFill(CronCalendar x) {
        for (int rule = 0; rule < 4; rule++) {
            for (int field = 0; field < 5; field++) {
                x.allow(what(rule, field), span(2, 4), 2);
                x.fill(rule, field);
            }
        }
    }

    private static void fillRefuses() {
        CHECK.sentence("fill: -1 if rule is not good; -2 if field is not good");
        CronCalendar x = new CronCalendar();
        for (int rule : BAD_RULES) {
            CHECK.due("fill(" + rule + ", 0)", x.fill(rule, 0), -1);
            CHECK.due("fill(" + rule + ", 4)", x.fill(rule, 4), -1);
            CHECK.due("fill(" + rule + ", 5)", x.fill(rule, 5), -1);
            CHECK.due("fill(" + rule + ", -1)", x.fill(rule, -1), -1);
        }
        for (int field : BAD_FIELDS) {
            CHECK.due("fill(0, " + field + ")", x.fill(0, field), -2);
            CHECK.due("fill(3, " + field + ")", x.fill(3, field), -2);
        }
    }

    // ---- promise 4 ----

    private static void allowedTellsValues() {
        CHECK.sentence("1 if the value is allowed in the field, otherwise 0");
        for (int rule = 0; rule < 4; rule++) {
            for (int field = 0; field < 5; field++) {
                CronCalendar x = new CronCalendar();
                int least = Fields.LEAST[field];
                int greatest = Fields.GREATEST[field];
                x.allow(what(rule, field), span(least, least), 1);
                CHECK.due("the first alone", x.allowed(rule, field, least), 1);
                CHECK.due("the second", x.allowed(rule, field, least + 1), 0);
                CHECK.due("the last", x.allowed(rule, field, greatest), 0);
                x.fill(rule, field);
                CHECK.due("the last after fill", x.allowed(rule, field, greatest), 1);
                x.allow(what(rule, field), span(greatest, greatest), 1);
                CHECK.due("the last alone", x.allowed(rule, field, greatest), 1);
                CHECK.due("the one before", x.allowed(rule, field, greatest - 1), 0);
                CHECK.due("the first", x.allowed(rule, field, least), 0);
            }
        }
    }

    private static void allowedOfNoValue() {
        CHECK.sentence("otherwise 0 (also if it is no value of the field)");
        for (int field = 0; field < 5; field++) {
            CronCalendar x = new CronCalendar();
            Fields.allowAll(x, 1, field);
            // The same low bits as the values 2 and 5 have, if a shift wraps around.
            int[] none = {
                Fields.LEAST[field] - 1, Fields.GREATEST[field] + 1, -2, 60, 63, 64, 64 + 2, 64 + 5, -64 + 2, -64 + 5,
                128 + 2, 256 + 5, (1 << 16) + 2, Integer.MIN_VALUE, Integer.MIN_VALUE + 2, Integer.MAX_VALUE
            };
            for (int value : none) {
                CHECK.due("full: allowed(0, " + field + ", " + value + ")", x.allowed(0, field, value), 0);
                CHECK.due("all values: allowed(1, " + field + ", " + value + ")", x.allowed(1, field, value), 0);
            }
        }
    }

    private static void allowedRefuses() {
        CHECK.sentence("allowed: -1 if rule is not good; -2 if field is not good");
        CronCalendar x = new CronCalendar();
        for (int value : new int[] {2, -1, 60, Integer.MAX_VALUE}) {
            for (int rule : BAD_RULES) {
                CHECK.due("allowed(" + rule + ", 0, " + value + ")", x.allowed(rule, 0, value), -1);
                CHECK.due("allowed(" + rule + ", 5, " + value + ")", x.allowed(rule, 5, value), -1);
            }
            for (int field : BAD_FIELDS) {
                CHECK.due("allowed(0, " + field + ", " + value + ")", x.allowed(0, field, value), -2);
                CHECK.due("allowed(3, " + field + ", " + value + ")", x.allowed(3, field, value), -2);
            }
        }
    }

    // ---- promise 18 ----

    private static void allowNeverMakesFull() {
        CHECK.sentence("allow never makes a field full, even if all its values are allowed behind it");
        for (int rule = 0; rule < 4; rule++) {
            for (int field = 0; field < 5; field++) {
                int least = Fields.LEAST[field];
                int greatest = Fields.GREATEST[field];
                CronCalendar x = new CronCalendar();
                Fields.allowAll(x, rule, field);
                CHECK.due("all at once", x.fill(rule, field), 0);
                x.allow(what(rule, field), span(least, greatest), 2);
                CHECK.due("by two allows", x.allow(what(rule, field), span(least + 1, greatest), 2), Fields.size(field));
                CHECK.due("fill after two allows", x.fill(rule, field), 0);
                for (int value = least; value <= greatest; value++) {
                    x.allow(what(rule, field), span(value, value), 1);
                }
                for (int value = least; value <= greatest; value++) {
                    CHECK.due("one by one: " + value, x.allowed(rule, field, value), 1);
                }
                CHECK.due("no value more", x.allowed(rule, field, greatest + 1), 0);
                CHECK.due("no value less", x.allowed(rule, field, least - 1), 0);
                CHECK.due("one by one", x.fill(rule, field), 0);
                CHECK.due("full by fill", x.fill(rule, field), 1);
            }
        }
    }

    private static void allowAfterAllValuesAddsToThem() {
        for (int rule = 0; rule < 4; rule++) {
            for (int field = 0; field < 5; field++) {
                CronCalendar x = new CronCalendar();
                Fields.allowAll(x, rule, field);
                CHECK.due("one of all", x.allow(what(rule, field), span(3, 3), 1), Fields.size(field));
                CHECK.due("another one of all", x.allowed(rule, field, 5), 1);
            }
        }
    }

    // What a rule answers if every day fits, or only some: the days asked are Saturday 1 to Monday 31 January 2000.
    private static void daysAre(CronCalendar x, int rule, String name, int first, int second, int last, int many) {
        CHECK.due(name + "next, the first day", x.next(rule, -1), 1440L * first);
        CHECK.due(name + "next, the second day", x.next(rule, 1440L * first + 1439), 1440L * second);
        CHECK.due(name + "previous", x.previous(rule, 1440L * 31), 1440L * last + 1439);
        CHECK.due(name + "dueDays", x.dueDays(rule, 0, 31), many);
        CHECK.due(name + "fits, 5 January", x.fits(rule, 1440L * 4), first <= 4 ? 1 : 0);
        CHECK.due(name + "fits, the first", x.fits(rule, 1440L * first), 1);
        CHECK.due(name + "dueOn, 5 January", x.dueOn(rule, 4), first <= 4 ? 1440 : 0);
        CHECK.due(name + "dueOn, the first", x.dueOn(rule, first), 1440);
    }

    private static void allWeekdaysBehindAllow() {
        for (int rule = 0; rule < 4; rule++) {
            CronCalendar x = new CronCalendar();
            Fields.allowAll(x, rule, Fields.WEEKDAYS);
            daysAre(x, rule, "all weekdays, days of the month full: ", 0, 1, 30, 31);
            x.allow(what(rule, Fields.MONTH_DAYS), span(13, 14), 1);
            daysAre(x, rule, "all weekdays, or 13th and 14th: ", 0, 1, 30, 31);
            CHECK.due("fill", x.fill(rule, Fields.WEEKDAYS), 0);
            daysAre(x, rule, "weekdays full, and 13th and 14th: ", 12, 13, 13, 2);
        }
    }

    private static void allMonthDaysBehindAllow() {
        for (int rule = 0; rule < 4; rule++) {
            CronCalendar x = new CronCalendar();
            Fields.allowAll(x, rule, Fields.MONTH_DAYS);
            daysAre(x, rule, "all days of the month, weekdays full: ", 0, 1, 30, 31);
            x.allow(what(rule, Fields.WEEKDAYS), span(5, 5), 1);
            daysAre(x, rule, "all days of the month, or Friday: ", 0, 1, 30, 31);
            CHECK.due("fill", x.fill(rule, Fields.MONTH_DAYS), 0);
            daysAre(x, rule, "days of the month full, and Friday: ", 6, 13, 27, 4);
        }
    }

    private static void bothOfThemBehindAllow() {
        CronCalendar x = new CronCalendar();
        Fields.allowAll(x, 1, Fields.MONTH_DAYS);
        Fields.allowAll(x, 1, Fields.WEEKDAYS);
        daysAre(x, 1, "all of both: ", 0, 1, 30, 31);
        CHECK.due("fill of the days of the month", x.fill(1, Fields.MONTH_DAYS), 0);
        daysAre(x, 1, "days of the month full: ", 0, 1, 30, 31);
        CHECK.due("fill of the weekdays", x.fill(1, Fields.WEEKDAYS), 0);
        daysAre(x, 1, "both full: ", 0, 1, 30, 31);
    }

    private static void minutesHoursAndMonthsBehindAllow() {
        CronCalendar x = new CronCalendar();
        for (int field : new int[] {Fields.MINUTES, Fields.HOURS, Fields.MONTHS}) {
            Fields.allowAll(x, 2, field);
            daysAre(x, 2, "all of field " + field + ": ", 0, 1, 30, 31);
            CHECK.due("the next minute", x.next(2, 86399), 86400);
            CHECK.due("the minute before", x.previous(2, 86400), 86399);
            CHECK.due("all days", x.dueDays(2, 0, 1000), 1000);
        }
    }
}
