/** Promises 13 to 17, sentence by sentence: the edges that they name. */
public final class DueEdgesTest {
    private static final Check CHECK = new Check();
    private static final long LAST_MINUTE = 210379679L;
    private static final int[] BAD_RULES = {-1, 4, -4, 8, Integer.MIN_VALUE, Integer.MAX_VALUE};
    private static final int[] BAD_DAYS = {-1, -2, 146097, 146098, -146096, Integer.MIN_VALUE, Integer.MAX_VALUE};

    // Beyond both ends of the minutes; some have, in their low 32 bits, the look of good ones.
    private static final long[] BEFORE_ALL = {
        -1, -2, -60, -1439, -1440, -1441, -LAST_MINUTE, Integer.MIN_VALUE, -(1L << 32), -(1L << 32) + 5000,
        -(1440L << 32) + 5000, Long.MIN_VALUE, Long.MIN_VALUE + 1, Long.MIN_VALUE + 5000, -9000000000000000000L
    };
    private static final long[] BEHIND_ALL = {
        LAST_MINUTE + 1, LAST_MINUTE + 2, LAST_MINUTE + 1440, Integer.MAX_VALUE, 1L << 31, 1L << 32, (1L << 32) + 5000,
        (1440L << 32) + 5000, Long.MAX_VALUE, Long.MAX_VALUE - 1, Long.MAX_VALUE - 5000, 9000000000000000000L
    };

    public static void main(String[] args) {
        fitsOrNot();
        fitsRefuses();
        dayFitsWithBothFull();
        dayFitsWithOneFull();
        dayFitsWithNoneFull();
        nextOfAnyLong();
        previousOfAnyLong();
        nextIsGreaterAndPreviousLess();
        theFirstAndTheLastMinuteAlone();
        thereIsNoneOnOneSide();
        thereIsNoneAtAll();
        theLongestWay();
        nextAndPreviousRefuse();
        dueOnFromNoneToAll();
        dueOnRefuses();
        dueDaysFromNoneToAll();
        dueDaysOfNoDays();
        dueDaysRefusesCounts();
        dueDaysRefusesDays();
        dueRefusesRules();
        CHECK.finish();
    }

    private static long minute(int day, int hour, int minute) {
        return 1440L * day + 60 * hour + minute;
    }

    private static void allow(CronCalendar x, int rule, int field, int from, int to) {
        x.allow(Fields.what(rule, field), Fields.span(from, to), 1);
    }

    // ---- promise 13 ----

    private static void fitsOrNot() {
        CHECK.sentence("1 if the minute fits the rule, otherwise 0");
        for (int rule = 0; rule < 4; rule++) {
            CronCalendar x = new CronCalendar();
            allow(x, rule, Fields.MINUTES, 10, 20);
            allow(x, rule, Fields.HOURS, 8, 9);
            // Day 40 is Thursday, 10 February 2000.
            CHECK.due("8:09", x.fits(rule, minute(40, 8, 9)), 0);
            CHECK.due("8:10", x.fits(rule, minute(40, 8, 10)), 1);
            CHECK.due("8:20", x.fits(rule, minute(40, 8, 20)), 1);
            CHECK.due("8:21", x.fits(rule, minute(40, 8, 21)), 0);
            CHECK.due("7:15", x.fits(rule, minute(40, 7, 15)), 0);
            CHECK.due("9:15", x.fits(rule, minute(40, 9, 15)), 1);
            CHECK.due("10:15", x.fits(rule, minute(40, 10, 15)), 0);
            allow(x, rule, Fields.MONTHS, 2, 2);
            CHECK.due("31 January", x.fits(rule, minute(30, 8, 15)), 0);
            CHECK.due("1 February", x.fits(rule, minute(31, 8, 15)), 1);
            CHECK.due("29 February", x.fits(rule, minute(59, 8, 15)), 1);
            CHECK.due("1 March", x.fits(rule, minute(60, 8, 15)), 0);
        }
    }

    private static void fitsRefuses() {
        CHECK.sentence("fits: -1 if rule is not good; -2 if minute is not good");
        for (int rule = 0; rule < 4; rule++) {
            CronCalendar x = new CronCalendar();
            CHECK.due("the first minute", x.fits(rule, 0), 1);
            CHECK.due("the last minute", x.fits(rule, LAST_MINUTE), 1);
            // A minute that is not good is refused as well where no minute fits.
            for (int round = 0; round < 2; round++) {
                for (long minute : BEFORE_ALL) {
                    CHECK.due("fits(" + rule + ", " + minute + ")", x.fits(rule, minute), -2);
                }
                for (long minute : BEHIND_ALL) {
                    CHECK.due("fits(" + rule + ", " + minute + ")", x.fits(rule, minute), -2);
                }
                neverDue(x, rule);
            }
            CHECK.due("the first minute, where none fits", x.fits(rule, 0), 0);
            CHECK.due("the last minute, where none fits", x.fits(rule, LAST_MINUTE), 0);
        }
    }

    // The 30th and 31st of February.
    private static void neverDue(CronCalendar x, int rule) {
        allow(x, rule, Fields.MONTH_DAYS, 30, 31);
        allow(x, rule, Fields.MONTHS, 2, 2);
    }

    // ---- which days fit ----

    // All five questions, on the days 0 to 30 of January 2000: those that fit, in their order.
    private static void daysOfJanuaryAre(CronCalendar x, int rule, String name, int... days) {
        CHECK.due(name + ": dueDays", x.dueDays(rule, 0, 31), days.length);
        long after = -1;
        int found = 0;
        for (int day = 0; day <= 30; day++) {
            boolean fits = found < days.length && days[found] == day;
            CHECK.due(name + ": fits on day " + day, x.fits(rule, 1440L * day), fits ? 1 : 0);
            CHECK.due(name + ": dueOn(" + day + ")", x.dueOn(rule, day), fits ? 1440 : 0);
            if (fits) {
                CHECK.due(name + ": next, day " + day, x.next(rule, after), 1440L * day);
                long before = found == 0 ? -2 : 1440L * days[found - 1] + 1439;
                CHECK.due(name + ": previous, day " + day, x.previous(rule, 1440L * day), before);
                after = 1440L * day + 1439;
                found++;
            }
        }
        CHECK.due(name + ": all days found", found, days.length);
    }

    private static int[] allOfJanuary() {
        int[] days = new int[31];
        for (int day = 0; day < 31; day++) {
            days[day] = day;
        }
        return days;
    }

    private static void dayFitsWithBothFull() {
        CHECK.sentence("if at least one of the fields 2 and 4 is full, both must be allowed (both full)");
        for (int rule = 0; rule < 4; rule++) {
            CronCalendar x = new CronCalendar();
            daysOfJanuaryAre(x, rule, "both full", allOfJanuary());
            x = new CronCalendar();
            allow(x, rule, Fields.MONTH_DAYS, 7, 7);
            allow(x, rule, Fields.WEEKDAYS, 0, 0);
            x.fill(rule, Fields.MONTH_DAYS);
            x.fill(rule, Fields.WEEKDAYS);
            daysOfJanuaryAre(x, rule, "both full again", allOfJanuary());
        }
    }

    private static void dayFitsWithOneFull() {
        CHECK.sentence("if at least one of the fields 2 and 4 is full, both must be allowed (one full)");
        for (int rule = 0; rule < 4; rule++) {
            CronCalendar x = new CronCalendar();
            allow(x, rule, Fields.MONTH_DAYS, 1, 1);
            allow(x, rule, Fields.MONTH_DAYS, 30, 31);
            daysOfJanuaryAre(x, rule, "1st, 30th and 31st", 0, 29, 30);
            CronCalendar y = new CronCalendar();
            allow(y, rule, Fields.WEEKDAYS, 0, 0);
            daysOfJanuaryAre(y, rule, "Sundays", 1, 8, 15, 22, 29);
            CronCalendar z = new CronCalendar();
            allow(z, rule, Fields.WEEKDAYS, 6, 6);
            daysOfJanuaryAre(z, rule, "Saturdays", 0, 7, 14, 21, 28);
        }
    }

    private static void dayFitsWithNoneFull() {
        CHECK.sentence("if neither is full, one of them being allowed is enough");
        for (int rule = 0; rule < 4; rule++) {
            CronCalendar x = new CronCalendar();
            // The 8th is a Saturday, the 13th is not.
            allow(x, rule, Fields.MONTH_DAYS, 8, 8);
            allow(x, rule, Fields.MONTH_DAYS, 13, 13);
            allow(x, rule, Fields.WEEKDAYS, 6, 6);
            daysOfJanuaryAre(x, rule, "8th, 13th or Saturday", 0, 7, 12, 14, 21, 28);
            x.fill(rule, Fields.WEEKDAYS);
            daysOfJanuaryAre(x, rule, "8th and 13th alone", 7, 12);
            allow(x, rule, Fields.WEEKDAYS, 6, 6);
            x.fill(rule, Fields.MONTH_DAYS);
            daysOfJanuaryAre(x, rule, "Saturday alone", 0, 7, 14, 21, 28);
            CronCalendar y = new CronCalendar();
            allow(y, rule, Fields.MONTH_DAYS, 8, 8);
            allow(y, rule, Fields.WEEKDAYS, 6, 6);
            allow(y, rule, Fields.MONTHS, 2, 2);
            CHECK.due("no day of another month", y.dueDays(rule, 0, 31), 0);
            CHECK.due("the days of the month", y.dueDays(rule, 31, 29), 5);
        }
    }

    // ---- promises 14 and 15 ----

    private static void nextOfAnyLong() {
        CHECK.sentence("The least good minute greater than after that fits the rule (after may be any long)");
        for (int rule = 0; rule < 4; rule++) {
            CronCalendar x = new CronCalendar();
            for (long after : BEFORE_ALL) {
                CHECK.due("next(" + rule + ", " + after + ")", x.next(rule, after), 0);
            }
            CHECK.due("next(" + rule + ", 0)", x.next(rule, 0), 1);
            CHECK.due("next(" + rule + ", 1439)", x.next(rule, 1439), 1440);
            CHECK.due("next(" + rule + ", last - 2)", x.next(rule, LAST_MINUTE - 2), LAST_MINUTE - 1);
            CHECK.due("next(" + rule + ", last - 1)", x.next(rule, LAST_MINUTE - 1), LAST_MINUTE);
            CHECK.due("next(" + rule + ", last)", x.next(rule, LAST_MINUTE), -2);
            for (long after : BEHIND_ALL) {
                CHECK.due("next(" + rule + ", " + after + ")", x.next(rule, after), -2);
            }
            // Day 1 is the first Sunday.
            allow(x, rule, Fields.WEEKDAYS, 0, 0);
            allow(x, rule, Fields.HOURS, 5, 5);
            for (long after : BEFORE_ALL) {
                CHECK.due("the first, after " + after, x.next(rule, after), minute(1, 5, 0));
            }
            for (long after : BEHIND_ALL) {
                CHECK.due("none, after " + after, x.next(rule, after), -2);
            }
        }
    }

    private static void previousOfAnyLong() {
        CHECK.sentence("The greatest good minute less than before that fits the rule (before may be any long)");
        for (int rule = 0; rule < 4; rule++) {
            CronCalendar x = new CronCalendar();
            for (long before : BEHIND_ALL) {
                CHECK.due("previous(" + rule + ", " + before + ")", x.previous(rule, before), LAST_MINUTE);
            }
            CHECK.due("previous(" + rule + ", last)", x.previous(rule, LAST_MINUTE), LAST_MINUTE - 1);
            CHECK.due("previous(" + rule + ", 1440)", x.previous(rule, 1440), 1439);
            CHECK.due("previous(" + rule + ", 2)", x.previous(rule, 2), 1);
            CHECK.due("previous(" + rule + ", 1)", x.previous(rule, 1), 0);
            CHECK.due("previous(" + rule + ", 0)", x.previous(rule, 0), -2);
            for (long before : BEFORE_ALL) {
                CHECK.due("previous(" + rule + ", " + before + ")", x.previous(rule, before), -2);
            }
            // Day 146091 is the last Sunday.
            allow(x, rule, Fields.WEEKDAYS, 0, 0);
            allow(x, rule, Fields.HOURS, 5, 5);
            for (long before : BEHIND_ALL) {
                CHECK.due("the last, before " + before, x.previous(rule, before), minute(146091, 5, 59));
            }
            for (long before : BEFORE_ALL) {
                CHECK.due("none, before " + before, x.previous(rule, before), -2);
            }
        }
    }

    private static void nextIsGreaterAndPreviousLess() {
        CHECK.sentence("greater than after, less than before: never the minute itself");
        CronCalendar x = new CronCalendar();
        allow(x, 0, Fields.MINUTES, 0, 0);
        allow(x, 0, Fields.MINUTES, 59, 59);
        allow(x, 0, Fields.HOURS, 0, 0);
        allow(x, 0, Fields.HOURS, 23, 23);
        long[] due = {
            minute(58, 23, 59), minute(59, 0, 0), minute(59, 0, 59), minute(59, 23, 0), minute(59, 23, 59), minute(60, 0, 0)
        };
        for (int i = 1; i < due.length; i++) {
            CHECK.due("next, at one", x.next(0, due[i - 1]), due[i]);
            CHECK.due("next, just before one", x.next(0, due[i] - 1), due[i]);
            CHECK.due("previous, at one", x.previous(0, due[i]), due[i - 1]);
            CHECK.due("previous, just behind one", x.previous(0, due[i - 1] + 1), due[i - 1]);
        }
    }

    private static void theFirstAndTheLastMinuteAlone() {
        CronCalendar x = new CronCalendar();
        // 0:00 on the 1st of January; 23:59 on the 31st of December.
        for (int field : new int[] {Fields.MINUTES, Fields.HOURS, Fields.MONTH_DAYS, Fields.MONTHS}) {
            Fields.allowOnly(x, 0, field, Fields.LEAST[field]);
            Fields.allowOnly(x, 1, field, Fields.GREATEST[field]);
        }
        CHECK.due("the first minute", x.next(0, -1), 0);
        CHECK.due("one year on", x.next(0, 0), minute(366, 0, 0));
        CHECK.due("back to the first minute", x.previous(0, minute(366, 0, 0)), 0);
        CHECK.due("just behind the first minute", x.previous(0, 1), 0);
        CHECK.due("none before it", x.previous(0, 0), -2);
        CHECK.due("the last one", x.previous(0, Long.MAX_VALUE), minute(145732, 0, 0));
        CHECK.due("1 January 2400 is not good", x.next(0, minute(145732, 0, 0)), -2);
        CHECK.due("the last minute", x.previous(1, LAST_MINUTE + 1), LAST_MINUTE);
        CHECK.due("one year back", x.previous(1, LAST_MINUTE), minute(145731, 23, 59));
        CHECK.due("on to the last minute", x.next(1, minute(145731, 23, 59)), LAST_MINUTE);
        CHECK.due("just before the last minute", x.next(1, LAST_MINUTE - 1), LAST_MINUTE);
        CHECK.due("none behind it", x.next(1, LAST_MINUTE), -2);
        CHECK.due("the first one", x.next(1, Long.MIN_VALUE), minute(365, 23, 59));
        CHECK.due("31 December 1999 is not good", x.previous(1, minute(365, 23, 59)), -2);
    }

    private static void thereIsNoneOnOneSide() {
        CHECK.sentence("-2 if there is none");
        CronCalendar x = new CronCalendar();
        // Thursdays and Saturdays: the first day is a Saturday, the last but one a Thursday.
        allow(x, 3, Fields.WEEKDAYS, 4, 4);
        allow(x, 3, Fields.WEEKDAYS, 6, 6);
        allow(x, 3, Fields.HOURS, 12, 12);
        allow(x, 3, Fields.MINUTES, 30, 30);
        CHECK.due("none before the first", x.previous(3, minute(0, 12, 30)), -2);
        CHECK.due("the first", x.previous(3, minute(0, 12, 31)), minute(0, 12, 30));
        CHECK.due("none behind the last", x.next(3, minute(146095, 12, 30)), -2);
        CHECK.due("the last", x.next(3, minute(146095, 12, 29)), minute(146095, 12, 30));
        CHECK.due("none on the last day", x.next(3, minute(146096, 0, 0)), -2);
    }

    private static void thereIsNoneAtAll() {
        for (int rule = 0; rule < 4; rule++) {
            CronCalendar x = new CronCalendar();
            neverDue(x, rule);
            long[] anywhere = {Long.MIN_VALUE, -1, 0, 1, 86400, 105189840, LAST_MINUTE - 1, LAST_MINUTE, LAST_MINUTE + 1, Long.MAX_VALUE};
            for (long any : anywhere) {
                CHECK.due("next(" + rule + ", " + any + ")", x.next(rule, any), -2);
                CHECK.due("previous(" + rule + ", " + any + ")", x.previous(rule, any), -2);
            }
            CHECK.due("fits", x.fits(rule, minute(59, 0, 0)), 0);
            CHECK.due("dueOn", x.dueOn(rule, 59), 0);
            CHECK.due("dueDays", x.dueDays(rule, 0, 1000), 0);
            x.fill(rule, Fields.MONTHS);
            x.fill(rule, Fields.MONTH_DAYS);
            allow(x, rule, Fields.MONTH_DAYS, 31, 31);
            for (int month : new int[] {2, 4, 6, 9, 11}) {
                allow(x, rule, Fields.MONTHS, month, month);
            }
            CHECK.due("no 31st after", x.next(rule, Long.MIN_VALUE), -2);
            CHECK.due("no 31st before", x.previous(rule, Long.MAX_VALUE), -2);
        }
    }

    private static void theLongestWay() {
        CHECK.sentence("next and previous over eight years without a 29th of February");
        CronCalendar x = new CronCalendar();
        Fields.allowOnly(x, 2, Fields.MONTH_DAYS, 29);
        Fields.allowOnly(x, 2, Fields.MONTHS, 2);
        int[][] pairs = {{59, 1520}, {35123, 38044}, {71647, 74568}, {108171, 111092}, {143234, 144695}};
        for (int[] pair : pairs) {
            CHECK.due("on to " + pair[1], x.next(2, minute(pair[0], 23, 59)), minute(pair[1], 0, 0));
            CHECK.due("back to " + pair[0], x.previous(2, minute(pair[1], 0, 0)), minute(pair[0], 23, 59));
        }
        CHECK.due("the first", x.next(2, -1), minute(59, 0, 0));
        CHECK.due("none before it", x.previous(2, minute(59, 0, 0)), -2);
        CHECK.due("the last", x.previous(2, LAST_MINUTE), minute(144695, 23, 59));
        CHECK.due("none behind it", x.next(2, minute(144695, 23, 59)), -2);
    }

    private static void nextAndPreviousRefuse() {
        CHECK.sentence("next and previous: -1 if rule is not good");
        CronCalendar x = new CronCalendar();
        for (int rule : BAD_RULES) {
            for (long any : new long[] {Long.MIN_VALUE, -1, 0, 1, LAST_MINUTE, LAST_MINUTE + 1, Long.MAX_VALUE}) {
                CHECK.due("next(" + rule + ", " + any + ")", x.next(rule, any), -1);
                CHECK.due("previous(" + rule + ", " + any + ")", x.previous(rule, any), -1);
            }
        }
    }

    // ---- promise 16 ----

    private static void dueOnFromNoneToAll() {
        CHECK.sentence("How many minutes of a day fit the rule");
        for (int rule = 0; rule < 4; rule++) {
            for (int day : new int[] {0, 59, 146096}) {
                CronCalendar x = new CronCalendar();
                CHECK.due("all", x.dueOn(rule, day), 1440);
                allow(x, rule, Fields.HOURS, 23, 23);
                CHECK.due("one hour", x.dueOn(rule, day), 60);
                allow(x, rule, Fields.MINUTES, 59, 59);
                CHECK.due("one minute", x.dueOn(rule, day), 1);
                allow(x, rule, Fields.HOURS, 0, 0);
                CHECK.due("one minute in two hours", x.dueOn(rule, day), 2);
                allow(x, rule, Fields.MINUTES, 0, 1);
                CHECK.due("three minutes in two hours", x.dueOn(rule, day), 6);
                x.fill(rule, Fields.HOURS);
                CHECK.due("three minutes in all hours", x.dueOn(rule, day), 72);
                neverDue(x, rule);
                CHECK.due("none", x.dueOn(rule, day), 0);
            }
        }
    }

    private static void dueOnRefuses() {
        CHECK.sentence("dueOn: -1 if rule is not good; -2 if day is not good");
        for (int rule = 0; rule < 4; rule++) {
            CronCalendar x = new CronCalendar();
            for (int day : BAD_DAYS) {
                CHECK.due("dueOn(" + rule + ", " + day + ")", x.dueOn(rule, day), -2);
            }
            neverDue(x, rule);
            for (int day : BAD_DAYS) {
                CHECK.due("none due: dueOn(" + rule + ", " + day + ")", x.dueOn(rule, day), -2);
            }
        }
    }

    // ---- promise 17 ----

    private static void dueDaysFromNoneToAll() {
        CHECK.sentence("How many of the days first .. first + count - 1 have a minute that fits the rule");
        for (int rule = 0; rule < 4; rule++) {
            CronCalendar x = new CronCalendar();
            CHECK.due("all of 1000", x.dueDays(rule, 0, 1000), 1000);
            CHECK.due("all of 999", x.dueDays(rule, 0, 999), 999);
            CHECK.due("the last 1000", x.dueDays(rule, 145097, 1000), 1000);
            // One minute of each Saturday.
            allow(x, rule, Fields.MINUTES, 59, 59);
            allow(x, rule, Fields.HOURS, 23, 23);
            allow(x, rule, Fields.WEEKDAYS, 6, 6);
            CHECK.due("the first day", x.dueDays(rule, 0, 1), 1);
            CHECK.due("the second day", x.dueDays(rule, 1, 1), 0);
            CHECK.due("just before the second Saturday", x.dueDays(rule, 1, 6), 0);
            CHECK.due("with the second Saturday", x.dueDays(rule, 1, 7), 1);
            CHECK.due("from Saturday to Saturday", x.dueDays(rule, 0, 8), 2);
            CHECK.due("1000 from a Saturday on", x.dueDays(rule, 0, 1000), 143);
            CHECK.due("1000 from a Monday on, the last a Saturday", x.dueDays(rule, 2, 1000), 143);
            CHECK.due("999 from a Monday on", x.dueDays(rule, 2, 999), 142);
            CHECK.due("1000 from a Sunday on", x.dueDays(rule, 1, 1000), 142);
            CHECK.due("1000 up to the last day", x.dueDays(rule, 145097, 1000), 142);
            CHECK.due("the last Saturday", x.dueDays(rule, 146090, 7), 1);
            CHECK.due("behind the last Saturday", x.dueDays(rule, 146091, 6), 0);
            neverDue(x, rule);
            CHECK.due("Saturdays of February 2000", x.dueDays(rule, 0, 365), 4);
            x.fill(rule, Fields.WEEKDAYS);
            CHECK.due("none", x.dueDays(rule, 0, 1000), 0);
        }
    }

    // Of no days at all, all are good, wherever they would begin.
    private static void dueDaysOfNoDays() {
        CHECK.sentence("count is in 0 .. 1000 (count 0)");
        CronCalendar x = new CronCalendar();
        for (int rule = 0; rule < 4; rule++) {
            for (int first : new int[] {0, 1, 146095, 146096}) {
                CHECK.due("dueDays(" + rule + ", " + first + ", 0)", x.dueDays(rule, first, 0), 0);
            }
            for (int first : BAD_DAYS) {
                CHECK.due("dueDays(" + rule + ", " + first + ", 0)", x.dueDays(rule, first, 0), 0);
            }
        }
    }

    private static void dueDaysRefusesCounts() {
        CHECK.sentence("-2 unless count is in 0 .. 1000");
        CronCalendar x = new CronCalendar();
        int[] bad = {-1, -2, 1001, 1002, -1000, 146097, Integer.MIN_VALUE, Integer.MIN_VALUE + 1, Integer.MAX_VALUE};
        for (int count : bad) {
            for (int first : new int[] {0, 1, 1000, 145096, 146096, -1, 146097}) {
                CHECK.due("dueDays(0, " + first + ", " + count + ")", x.dueDays(0, first, count), -2);
            }
        }
        CHECK.due("dueDays(0, 0, 1000)", x.dueDays(0, 0, 1000), 1000);
        CHECK.due("dueDays(0, 0, 1)", x.dueDays(0, 0, 1), 1);
        CHECK.due("dueDays(0, 0, 0)", x.dueDays(0, 0, 0), 0);
    }

    private static void dueDaysRefusesDays() {
        CHECK.sentence("-2 unless all these days are good");
        for (int rule = 0; rule < 4; rule++) {
            CronCalendar x = new CronCalendar();
            for (int count : new int[] {1, 2, 7, 999, 1000}) {
                String name = "count " + count + ", ";
                int last = 146096 - count + 1;
                CHECK.due(name + "the last is the last good one", x.dueDays(rule, last, count), count);
                CHECK.due(name + "the last is not good", x.dueDays(rule, last + 1, count), -2);
                CHECK.due(name + "the first is the first good one", x.dueDays(rule, 0, count), count);
                CHECK.due(name + "the first is not good", x.dueDays(rule, -1, count), -2);
                CHECK.due(name + "only the last is good", x.dueDays(rule, 1 - count, count), count == 1 ? 1 : -2);
                CHECK.due(name + "only the first is good", x.dueDays(rule, 146096, count), count == 1 ? 1 : -2);
                CHECK.due(name + "none is good, before", x.dueDays(rule, -count, count), -2);
                CHECK.due(name + "none is good, behind", x.dueDays(rule, 146097, count), -2);
                CHECK.due(name + "the sum wraps around", x.dueDays(rule, Integer.MAX_VALUE, count), -2);
                CHECK.due(name + "the sum just wraps", x.dueDays(rule, Integer.MAX_VALUE - count + 1, count), -2);
                CHECK.due(name + "the sum just does not wrap", x.dueDays(rule, Integer.MAX_VALUE - count, count), -2);
                CHECK.due(name + "the least int", x.dueDays(rule, Integer.MIN_VALUE, count), -2);
            }
        }
    }

    private static void dueRefusesRules() {
        CHECK.sentence("fits, dueOn and dueDays: -1 if rule is not good");
        CronCalendar x = new CronCalendar();
        for (int rule : BAD_RULES) {
            CHECK.due("fits(" + rule + ", 0)", x.fits(rule, 0), -1);
            CHECK.due("fits(" + rule + ", MIN)", x.fits(rule, Long.MIN_VALUE), -1);
            CHECK.due("fits(" + rule + ", MAX)", x.fits(rule, Long.MAX_VALUE), -1);
            CHECK.due("dueOn(" + rule + ", 0)", x.dueOn(rule, 0), -1);
            CHECK.due("dueOn(" + rule + ", -1)", x.dueOn(rule, -1), -1);
            CHECK.due("dueOn(" + rule + ", 146097)", x.dueOn(rule, 146097), -1);
            CHECK.due("dueDays(" + rule + ", 0, 0)", x.dueDays(rule, 0, 0), -1);
            CHECK.due("dueDays(" + rule + ", 0, 1)", x.dueDays(rule, 0, 1), -1);
            CHECK.due("dueDays(" + rule + ", 0, 1001)", x.dueDays(rule, 0, 1001), -1);
            CHECK.due("dueDays(" + rule + ", -1, 1)", x.dueDays(rule, -1, 1), -1);
        }
    }
}
