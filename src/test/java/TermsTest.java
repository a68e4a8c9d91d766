import java.time.Year;
import java.util.LinkedHashMap;
import java.util.Map;
import java.util.function.Consumer;
import java.util.function.ToLongFunction;

/** The section "Terms": the edges that it names, and what it says of every method. */
public final class TermsTest {
    private static final Check CHECK = new Check();
    private static final long LAST_MINUTE = 210379679L;
    private static final int[] BAD_RULES = {-1, 4, 5, 8, -4, Integer.MIN_VALUE, Integer.MAX_VALUE};
    private static final int[] BAD_FIELDS = {-1, 5, 6, 7, 8, -5, Integer.MIN_VALUE, Integer.MAX_VALUE};
    private static final int[] BAD_DAYS = {-1, 146097, -2, 146098, -146096, Integer.MIN_VALUE, Integer.MAX_VALUE};

    public static void main(String[] args) {
        theFirstAndTheLastDay();
        theDaysBesideThem();
        leapYears();
        everyYear();
        theMonths();
        theWeekdays();
        minutes();
        dates();
        theRules();
        theFields();
        theValuesOfTheFields();
        theValuesInAMinute();
        noQuestionChangesAnything();
        aRefusedCallChangesNothing();
        theOrderOfTheTestsInTheRules();
        theOrderOfTheTestsInTheDates();
        theOrderOfTheTestsInWhatIsDue();
        CHECK.finish();
    }

    private static void theFirstAndTheLastDay() {
        CHECK.sentence("DAYS are numbered from 0 .. up to 146096");
        // A day, its date, weekday, number in the year and week.
        int[][] edges = {
            {0, 20000101, 6, 1, -1},
            {1, 20000102, 0, 2, -1},
            {146095, 23991230, 4, 364, 239952},
            {146096, 23991231, 5, 365, 239952},
        };
        CronCalendar x = new CronCalendar();
        for (int[] edge : edges) {
            int day = edge[0];
            CHECK.due("day(" + edge[1] + ")", x.day(edge[1]), day);
            CHECK.due("date(" + day + ")", x.date(day), edge[1]);
            CHECK.due("weekday(" + day + ")", x.weekday(day), edge[2]);
            CHECK.due("dayOfYear(" + day + ")", x.dayOfYear(day), edge[3]);
            CHECK.due("week(" + day + ")", x.week(day), edge[4]);
            CHECK.due("addMonths(" + day + ", 0)", x.addMonths(day, 0), day);
            CHECK.due("dueOn(0, " + day + ")", x.dueOn(0, day), 1440);
            CHECK.due("dueDays(0, " + day + ", 1)", x.dueDays(0, day, 1), 1);
            CHECK.due("fits(0, first minute of " + day + ")", x.fits(0, 1440L * day), 1);
            CHECK.due("fits(0, last minute of " + day + ")", x.fits(0, 1440L * day + 1439), 1);
        }
    }

    private static void theDaysBesideThem() {
        CHECK.sentence("a day is good if it is 0 .. 146096, a minute if its day is good");
        CronCalendar x = new CronCalendar();
        CHECK.due("day(19991231)", x.day(19991231), -1);
        CHECK.due("day(24000101)", x.day(24000101), -1);
        for (int day : BAD_DAYS) {
            CHECK.due("date(" + day + ")", x.date(day), -1);
            CHECK.due("weekday(" + day + ")", x.weekday(day), -1);
            CHECK.due("dayOfYear(" + day + ")", x.dayOfYear(day), -1);
            CHECK.due("week(" + day + ")", x.week(day), -1);
            CHECK.due("addMonths(" + day + ", 0)", x.addMonths(day, 0), -1);
            CHECK.due("dueOn(0, " + day + ")", x.dueOn(0, day), -2);
            CHECK.due("dueDays(0, " + day + ", 1)", x.dueDays(0, day, 1), -2);
            CHECK.due("fits(0, first minute of " + day + ")", x.fits(0, 1440L * day), -2);
            CHECK.due("fits(0, last minute of " + day + ")", x.fits(0, 1440L * day + 1439), -2);
        }
    }

    private static void leapYears() {
        CHECK.sentence("A year is LEAP if 4 divides it, but not 100, or if 400 divides it");
        int[] leap = {2000, 2004, 2096, 2104, 2196, 2204, 2296, 2304, 2396};
        int[] notLeap = {2001, 2002, 2003, 2005, 2050, 2099, 2100, 2101, 2200, 2300, 2397, 2398, 2399};
        CronCalendar x = new CronCalendar();
        for (int year : leap) {
            aYear(x, year, true);
        }
        for (int year : notLeap) {
            aYear(x, year, false);
        }
    }

    private static void everyYear() {
        for (int year = 2000; year <= 2399; year++) {
            aYear(new CronCalendar(), year, Year.isLeap(year));
        }
    }

    private static void aYear(CronCalendar x, int year, boolean leap) {
        int february28 = x.day(10000 * year + 228);
        int leapDay = x.day(10000 * year + 229);
        int march1 = x.day(10000 * year + 301);
        CHECK.due("monthDays(" + year + ", 2)", x.monthDays(year, 2), leap ? 29 : 28);
        CHECK.due("29 February " + year, leapDay, leap ? february28 + 1 : -1);
        CHECK.due("1 March " + year, march1, february28 + (leap ? 2 : 1));
        CHECK.due("the date after 28 February " + year, x.date(february28 + 1) % 10000, leap ? 229 : 301);
        CHECK.due("the number of 1 March " + year, x.dayOfYear(march1), leap ? 61 : 60);
        int december31 = x.day(10000 * year + 1231);
        CHECK.due("the number of 31 December " + year, x.dayOfYear(december31), leap ? 366 : 365);
    }

    private static void theMonths() {
        CHECK.sentence("Months are 1 .. 12 with 31, 28 (29 in leap years), 31, 30, .. and 31 days");
        int[] lengths = {31, 28, 31, 30, 31, 30, 31, 31, 30, 31, 30, 31};
        for (int year : new int[] {2000, 2001, 2100, 2396, 2399}) {
            CronCalendar x = new CronCalendar();
            boolean leap = year == 2000 || year == 2396;
            int day = x.day(10000 * year + 101);
            for (int month = 1; month <= 12; month++) {
                int length = month == 2 && leap ? 29 : lengths[month - 1];
                int date = 10000 * year + 100 * month;
                CHECK.due("monthDays(" + year + ", " + month + ")", x.monthDays(year, month), length);
                CHECK.due("the 0th of month " + month, x.day(date), -1);
                CHECK.due("the 1st of month " + month, x.day(date + 1), day);
                CHECK.due("the last of month " + month, x.day(date + length), day + length - 1);
                CHECK.due("one more than the last of month " + month, x.day(date + length + 1), -1);
                CHECK.due("the date of the 1st", x.date(day), date + 1);
                CHECK.due("the date of the last", x.date(day + length - 1), date + length);
                day += length;
            }
            CHECK.due("monthDays(" + year + ", 0)", x.monthDays(year, 0), -2);
            CHECK.due("monthDays(" + year + ", 13)", x.monthDays(year, 13), -2);
            CHECK.due("month 0", x.day(10000 * year + 1), -1);
            CHECK.due("month 13", x.day(10000 * year + 1301), -1);
        }
    }

    private static void theWeekdays() {
        CHECK.sentence("WEEKDAYS are 0 for Sunday to 6 for Saturday");
        int[] fromSaturday = {6, 0, 1, 2, 3, 4, 5, 6, 0};
        CronCalendar x = new CronCalendar();
        for (int i = 0; i < fromSaturday.length; i++) {
            CHECK.due("weekday(" + i + ")", x.weekday(i), fromSaturday[i]);
        }
        // Day 146090 is Saturday, 25 December 2399.
        for (int i = 0; i < 7; i++) {
            CHECK.due("weekday(" + (146090 + i) + ")", x.weekday(146090 + i), fromSaturday[i]);
        }
    }

    private static void minutes() {
        CHECK.sentence("A MINUTE is a number 1440 * day + 60 * hour + minute of the hour, as a long");
        for (int day : new int[] {0, 1, 59, 146095, 146096}) {
            for (int hour : new int[] {0, 1, 22, 23}) {
                for (int minute : new int[] {0, 1, 58, 59}) {
                    CronCalendar x = new CronCalendar();
                    Fields.allowOnly(x, 0, Fields.HOURS, hour);
                    Fields.allowOnly(x, 0, Fields.MINUTES, minute);
                    long number = 1440L * day + 60 * hour + minute;
                    String name = "day " + day + ", " + hour + ":" + minute + ", ";
                    CHECK.due(name + "fits", x.fits(0, number), 1);
                    CHECK.due(name + "next", x.next(0, 1440L * day - 1), number);
                    CHECK.due(name + "previous", x.previous(0, 1440L * day + 1440), number);
                    CHECK.due(name + "dueOn", x.dueOn(0, day), 1);
                }
            }
        }
    }

    private static void dates() {
        CHECK.sentence("A DATE is written as the number 10000 * year + 100 * month + day of the month");
        CronCalendar x = new CronCalendar();
        CHECK.due("day(20240229)", x.day(20240229), 8825);
        CHECK.due("date(8825)", x.date(8825), 20240229);
        CHECK.due("the day first", x.day(29022024), -1);
        CHECK.due("two digits of the year", x.day(240229), -1);
        CHECK.due("a digit too many", x.day(202402290), -1);
    }

    private static void theRules() {
        CHECK.sentence("a rule is good if it is 0 .. 3");
        CronCalendar x = new CronCalendar();
        for (int rule = 0; rule <= 3; rule++) {
            aRule(x, rule, true);
        }
        for (int rule : BAD_RULES) {
            aRule(x, rule, false);
        }
    }

    private static void aRule(CronCalendar x, int rule, boolean good) {
        String name = "rule " + rule + ": ";
        CHECK.due(name + "fill", x.fill(rule, 0), good ? 1 : -1);
        CHECK.due(name + "allowed", x.allowed(rule, 0, 0), good ? 1 : -1);
        CHECK.due(name + "fits", x.fits(rule, 0), good ? 1 : -1);
        CHECK.due(name + "next", x.next(rule, 0), good ? 1 : -1);
        CHECK.due(name + "previous", x.previous(rule, 3), good ? 2 : -1);
        CHECK.due(name + "dueOn", x.dueOn(rule, 0), good ? 1440 : -1);
        CHECK.due(name + "dueDays", x.dueDays(rule, 0, 2), good ? 2 : -1);
        // 8 times the rules at the ends of the ints would wrap around to good ones.
        if (rule >= -4 && rule <= 8) {
            CHECK.due(name + "allow", x.allow(8 * rule, 0, 1), good ? 1 : -1);
        }
    }

    private static void theFields() {
        CHECK.sentence("a field if it is 0 .. 4");
        CronCalendar x = new CronCalendar();
        for (int rule = 0; rule <= 3; rule++) {
            for (int field = 0; field <= 4; field++) {
                String name = "rule " + rule + ", field " + field + ": ";
                CHECK.due(name + "fill", x.fill(rule, field), 1);
                CHECK.due(name + "allowed", x.allowed(rule, field, 2), 1);
                CHECK.due(name + "allow", x.allow(8 * rule + field, 64 * 2 + 2, 1), 1);
            }
            for (int field : BAD_FIELDS) {
                String name = "rule " + rule + ", field " + field + ": ";
                CHECK.due(name + "fill", x.fill(rule, field), -2);
                CHECK.due(name + "allowed", x.allowed(rule, field, 2), -2);
            }
            for (int field = 5; field <= 7; field++) {
                CHECK.due("allow, field " + field, x.allow(8 * rule + field, 64 * 2 + 2, 1), -2);
            }
        }
    }

    private static void theValuesOfTheFields() {
        CHECK.sentence("minutes 0 .. 59, hours 0 .. 23, days of the month 1 .. 31, months 1 .. 12, weekdays 0 .. 6");
        int[][] ends = {{0, 59}, {0, 23}, {1, 31}, {1, 12}, {0, 6}};
        for (int field = 0; field < 5; field++) {
            int first = ends[field][0];
            int last = ends[field][1];
            CronCalendar x = new CronCalendar();
            CHECK.due("before the first value of field " + field, x.allowed(0, field, first - 1), 0);
            CHECK.due("the first value of field " + field, x.allowed(0, field, first), 1);
            CHECK.due("the last value of field " + field, x.allowed(0, field, last), 1);
            CHECK.due("after the last value of field " + field, x.allowed(0, field, last + 1), 0);
            CHECK.due("allow before the first", x.allow(field, 64 * (first - 1) + first, 1), -3);
            CHECK.due("allow after the last", x.allow(field, 64 * last + last + 1, 1), -3);
            CHECK.due("allow the last", x.allow(field, 64 * last + last, 1), 1);
            CHECK.due("allow the first", x.allow(field, 64 * first + first, 1), 2);
            CHECK.due("allow all", x.allow(field, 64 * first + last, 1), last - first + 1);
        }
    }

    private static void theValuesInAMinute() {
        CHECK.sentence("A minute FITS a rule if its minute, hour and month are allowed, and its day fits");
        // 31 December 2022 is a Saturday, 1 January 2023 a Sunday: the last values and the first.
        long last = 1440L * 8401 - 1;
        long first = 1440L * 8401;
        for (int field = 0; field < 5; field++) {
            CronCalendar x = new CronCalendar();
            Fields.allowOnly(x, 0, field, Fields.GREATEST[field]);
            CHECK.due("the last minute of 2022, last value of field " + field, x.fits(0, last), 1);
            CHECK.due("the first minute of 2023, last value of field " + field, x.fits(0, first), 0);
            Fields.allowOnly(x, 0, field, Fields.LEAST[field]);
            CHECK.due("the last minute of 2022, first value of field " + field, x.fits(0, last), 0);
            CHECK.due("the first minute of 2023, first value of field " + field, x.fits(0, first), 1);
        }
    }

    // Rule 0 is new; rule 1 has few values; rule 2 has all of them, but is not full; rule 3 is full again.
    private static void prepare(CronCalendar x) {
        for (int field = 0; field < 5; field++) {
            x.allow(Fields.what(1, field), Fields.span(2, 5), 3);
            Fields.allowAll(x, 2, field);
            x.allow(Fields.what(3, field), Fields.span(1, 1), 1);
            x.fill(3, field);
        }
    }

    private static Map<String, ToLongFunction<CronCalendar>> questions() {
        Map<String, ToLongFunction<CronCalendar>> all = new LinkedHashMap<>();
        all.put("day", x -> x.day(20240229));
        all.put("day refused", x -> x.day(20230229));
        all.put("date", x -> x.date(8825));
        all.put("date refused", x -> x.date(-1));
        all.put("weekday", x -> x.weekday(8825));
        all.put("weekday refused", x -> x.weekday(146097));
        all.put("monthDays", x -> x.monthDays(2024, 2));
        all.put("monthDays refused", x -> x.monthDays(2024, 13));
        all.put("dayOfYear", x -> x.dayOfYear(8825));
        all.put("dayOfYear refused", x -> x.dayOfYear(-1));
        all.put("week", x -> x.week(8825));
        all.put("week refused", x -> x.week(1));
        all.put("addMonths", x -> x.addMonths(8825, 12));
        all.put("addMonths refused", x -> x.addMonths(8825, 4800));
        all.put("nth", x -> x.nth(2024, 502, 4));
        all.put("nth refused", x -> x.nth(2024, 502, 5));
        for (int i = 0; i <= 4; i++) {
            int rule = i;
            all.put("allowed, rule " + rule, x -> x.allowed(rule, 2, 5));
            all.put("allowed refused, rule " + rule, x -> x.allowed(rule, 5, 5));
            all.put("fits, rule " + rule, x -> x.fits(rule, 5555));
            all.put("fits refused, rule " + rule, x -> x.fits(rule, -1));
            all.put("next, rule " + rule, x -> x.next(rule, 5555));
            all.put("next refused, rule " + rule, x -> x.next(rule, LAST_MINUTE));
            all.put("previous, rule " + rule, x -> x.previous(rule, 555555));
            all.put("previous refused, rule " + rule, x -> x.previous(rule, 0));
            all.put("dueOn, rule " + rule, x -> x.dueOn(rule, 555));
            all.put("dueOn refused, rule " + rule, x -> x.dueOn(rule, -1));
            all.put("dueDays, rule " + rule, x -> x.dueDays(rule, 555, 55));
            all.put("dueDays refused, rule " + rule, x -> x.dueDays(rule, 555, 1001));
        }
        return all;
    }

    private static void noQuestionChangesAnything() {
        CHECK.sentence("No question changes anything");
        String before = Fields.after(TermsTest::prepare);
        questions().forEach((name, question) -> {
            Consumer<CronCalendar> calls = x -> {
                prepare(x);
                question.applyAsLong(x);
            };
            CHECK.same("the fields after " + name, Fields.after(calls), before);
            everyAnswerStays(name, question);
        });
    }

    private static void everyAnswerStays(String name, ToLongFunction<CronCalendar> question) {
        CronCalendar asked = new CronCalendar();
        CronCalendar notAsked = new CronCalendar();
        prepare(asked);
        prepare(notAsked);
        question.applyAsLong(asked);
        questions().forEach((other, q) ->
                CHECK.due(other + " after " + name, q.applyAsLong(asked), q.applyAsLong(notAsked)));
    }

    private static void aRefusedCallChangesNothing() {
        CHECK.sentence("A refused call changes nothing");
        String before = Fields.after(TermsTest::prepare);
        // The fields that a refused call could reach are those of every rule: new, with few or all values, filled.
        for (int rule = 0; rule < 4; rule++) {
            for (int field = 0; field < 5; field++) {
                int what = Fields.what(rule, field);
                int least = Fields.LEAST[field];
                int greatest = Fields.GREATEST[field];
                refusedAllow(before, what, Fields.span(least, greatest + 1), 1, -3);
                refusedAllow(before, what, Fields.span(least - 1, greatest), 1, -3);
                refusedAllow(before, what, Fields.span(greatest, least), 1, -3);
                refusedAllow(before, what, -Fields.span(3, 4), 1, -3);
                refusedAllow(before, what, Fields.span(3, 4), 0, -4);
                refusedAllow(before, what, Fields.span(3, 4), 60, -4);
                refusedAllow(before, what, Fields.span(3, 4), -1, -4);
            }
            for (int field = 5; field < 8; field++) {
                refusedAllow(before, Fields.what(rule, field), Fields.span(3, 4), 1, -2);
            }
            for (int field : BAD_FIELDS) {
                refusedFill(before, rule, field, -2);
            }
        }
        for (int what : new int[] {-1, -4, -8, -32, 32, 36, 64, Integer.MIN_VALUE, Integer.MAX_VALUE - 7}) {
            refusedAllow(before, what, Fields.span(3, 4), 1, -1);
        }
        for (int rule : BAD_RULES) {
            refusedFill(before, rule, 2, -1);
        }
    }

    private static void refusedAllow(String before, int what, int span, int step, int want) {
        String name = "allow(" + what + ", " + span + ", " + step + ")";
        refused(before, name, x -> x.allow(what, span, step), want);
    }

    private static void refusedFill(String before, int rule, int field, int want) {
        refused(before, "fill(" + rule + ", " + field + ")", x -> x.fill(rule, field), want);
    }

    private static void refused(String before, String name, ToLongFunction<CronCalendar> call, int want) {
        Consumer<CronCalendar> calls = x -> {
            prepare(x);
            CHECK.due(name, call.applyAsLong(x), want);
        };
        CHECK.same("the fields after " + name, Fields.after(calls), before);
    }

    // The answer is the one of the first test that fails; with none, the one for a call that is not refused.
    private static void firstOf(String call, long got, long otherwise, boolean... failing) {
        long want = otherwise;
        for (int i = failing.length - 1; i >= 0; i--) {
            want = failing[i] ? -(i + 1) : want;
        }
        CHECK.due(call, got, want);
    }

    private static void theOrderOfTheTestsInTheRules() {
        CHECK.sentence("In every method the tests are made in the order named");
        for (int i = 0; i < 16; i++) {
            boolean badRule = (i & 1) != 0;
            boolean badField = (i & 2) != 0;
            boolean badSpan = (i & 4) != 0;
            boolean badStep = (i & 8) != 0;
            int rule = badRule ? 4 : 3;
            int field = badField ? 5 : 4;
            int what = 8 * rule + field;
            int span = badSpan ? 64 * 2 + 1 : 64 + 2;
            int step = badStep ? 0 : 1;
            CronCalendar x = new CronCalendar();
            String name = "(" + what + ", " + span + ", " + step + ")";
            firstOf("allow" + name, x.allow(what, span, step), 2, badRule, badField, badSpan, badStep);
            // A negative number is a rule that is not good, whatever its field would be.
            firstOf("allow, -what", x.allow(-what, span, step), 2, true, badField, badSpan, badStep);
            firstOf("allow, -span", x.allow(what, -span, step), 2, badRule, badField, true, badStep);
            firstOf("fill(" + rule + ", " + field + ")", x.fill(rule, field), i == 0 ? 0 : 1, badRule, badField);
            int value = badSpan ? 7 : 6;
            String asked = "allowed(" + rule + ", " + field + ", " + value + ")";
            firstOf(asked, x.allowed(rule, field, value), badSpan ? 0 : 1, badRule, badField);
        }
    }

    private static void theOrderOfTheTestsInTheDates() {
        CronCalendar x = new CronCalendar();
        for (int i = 0; i < 16; i++) {
            boolean badFirst = (i & 1) != 0;
            boolean badSecond = (i & 2) != 0;
            boolean badThird = (i & 4) != 0;
            boolean notThere = (i & 8) != 0;
            int year = badFirst ? 1999 : 2001;
            int month = badSecond ? 0 : 2;
            firstOf("monthDays(" + year + ", " + month + ")", x.monthDays(year, month), 28, badFirst, badSecond);
            int nthMonth = (notThere ? 500 : 100) + (badSecond ? 13 : 2);
            int weekday = badThird ? 7 : 4;
            String name = "nth(" + year + ", " + nthMonth + ", " + weekday + ")";
            firstOf(name, x.nth(year, nthMonth, weekday), 397, badFirst, badSecond, badThird, notThere);
            // Every n that is not in -4800 .. 4800 leads to a day that is not good as well.
            int day = badFirst ? 146097 : 146096;
            int n = badSecond ? 4801 : badThird ? 1 : 0;
            firstOf("addMonths(" + day + ", " + n + ")", x.addMonths(day, n), 146096, badFirst, badSecond, badThird);
        }
    }

    private static void theOrderOfTheTestsInWhatIsDue() {
        CronCalendar x = new CronCalendar();
        for (int rule : new int[] {-1, 0, 3, 4}) {
            boolean badRule = rule < 0 || rule > 3;
            firstOf("fits, both good", x.fits(rule, 0), 1, badRule);
            firstOf("fits, bad minute", x.fits(rule, -1), 1, badRule, true);
            firstOf("next, there is one", x.next(rule, 0), 1, badRule);
            firstOf("next, there is none", x.next(rule, LAST_MINUTE), 1, badRule, true);
            firstOf("previous, there is one", x.previous(rule, 1), 0, badRule);
            firstOf("previous, there is none", x.previous(rule, 0), 0, badRule, true);
            firstOf("dueOn, both good", x.dueOn(rule, 0), 1440, badRule);
            firstOf("dueOn, bad day", x.dueOn(rule, 146097), 1440, badRule, true);
            firstOf("dueDays, all good", x.dueDays(rule, 0, 3), 3, badRule);
            firstOf("dueDays, bad day", x.dueDays(rule, -1, 3), 3, badRule, true);
            firstOf("dueDays, bad count", x.dueDays(rule, 0, 1001), 3, badRule, true);
            firstOf("dueDays, both bad", x.dueDays(rule, -1, -1), 3, badRule, true);
        }
    }
}
