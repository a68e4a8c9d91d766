/** Promises 13 to 17: what fits a rule, and when it is due. */
public final class DueTest {
    private static final Check CHECK = new Check();
    private static final long LAST_MINUTE = 210379679L;

    public static void main(String[] args) {
        fitsLooksAtEveryField();
        fitsNeedsBothOrOne();
        fitsRefuses();
        nextAndPreviousOfAFullRule();
        nextAndPreviousWithinADay();
        nextAndPreviousOverDays();
        theFirstOfTheMonths();
        aLeapDayIsFarAway();
        nothingIsEverDue();
        nextAndPreviousRefuse();
        dueOnCounts();
        dueOnRefuses();
        dueDaysCounts();
        dueDaysRefuses();
        questionsChangeNothing();
        CHECK.finish();
    }

    private static long minute(int day, int hour, int minute) {
        return 1440L * day + 60 * hour + minute;
    }

    private static void fitsLooksAtEveryField() {
        // Day 59 is Tuesday, 29 February 2000.
        int[] values = {30, 8, 29, 2, 2};
        for (int field = 0; field < 5; field++) {
            CronCalendar x = new CronCalendar();
            Fields.allowOnly(x, 0, field, values[field]);
            CHECK.due("field " + field + " allowed", x.fits(0, minute(59, 8, 30)), 1);
            Fields.allowOnly(x, 0, field, values[field] + 1);
            CHECK.due("field " + field + " not allowed", x.fits(0, minute(59, 8, 30)), 0);
            CHECK.due("another rule", x.fits(1, minute(59, 8, 30)), 1);
        }
    }

    private static void fitsNeedsBothOrOne() {
        CronCalendar x = new CronCalendar();
        // Day 12 is Thursday, 13 January 2000; day 6 is Friday, the 7th; day 286 is Friday, 13 October.
        Fields.allowOnly(x, 2, Fields.MONTH_DAYS, 13);
        CHECK.due("the 13th, weekdays full", x.fits(2, minute(12, 0, 0)), 1);
        CHECK.due("the 7th, weekdays full", x.fits(2, minute(6, 0, 0)), 0);
        Fields.allowOnly(x, 2, Fields.WEEKDAYS, 5);
        CHECK.due("Thursday 13th, neither full", x.fits(2, minute(12, 0, 0)), 1);
        CHECK.due("Friday 7th, neither full", x.fits(2, minute(6, 0, 0)), 1);
        CHECK.due("Friday 13th, neither full", x.fits(2, minute(286, 0, 0)), 1);
        CHECK.due("Saturday 8th, neither full", x.fits(2, minute(7, 0, 0)), 0);
        Fields.allowOnly(x, 2, Fields.MONTHS, 10);
        CHECK.due("Friday 7th, another month", x.fits(2, minute(6, 0, 0)), 0);
        CHECK.due("Friday 13th, the month", x.fits(2, minute(286, 0, 0)), 1);
        x.fill(2, Fields.MONTHS);
        x.fill(2, Fields.MONTH_DAYS);
        CHECK.due("Thursday 13th, days of the month full", x.fits(2, minute(12, 0, 0)), 0);
        CHECK.due("Friday 7th, days of the month full", x.fits(2, minute(6, 0, 0)), 1);
    }

    private static void fitsRefuses() {
        CronCalendar x = new CronCalendar();
        for (int rule : new int[] {-1, 4, Integer.MIN_VALUE, Integer.MAX_VALUE}) {
            CHECK.due("fits(" + rule + ", 0)", x.fits(rule, 0), -1);
            CHECK.due("fits(" + rule + ", -1)", x.fits(rule, -1), -1);
        }
        long[] badMinutes = {-1, -1439, -1440, LAST_MINUTE + 1, 1L << 32, 1440L << 32, Long.MIN_VALUE, Long.MAX_VALUE};
        for (long minute : badMinutes) {
            CHECK.due("fits(3, " + minute + ")", x.fits(3, minute), -2);
        }
        CHECK.due("fits(3, 0)", x.fits(3, 0), 1);
        CHECK.due("fits(3, last)", x.fits(3, LAST_MINUTE), 1);
    }

    private static void nextAndPreviousOfAFullRule() {
        CronCalendar x = new CronCalendar();
        CHECK.due("next(0, MIN)", x.next(0, Long.MIN_VALUE), 0);
        CHECK.due("next(0, -1)", x.next(0, -1), 0);
        CHECK.due("next(0, 0)", x.next(0, 0), 1);
        CHECK.due("next(0, 1439)", x.next(0, 1439), 1440);
        CHECK.due("next(0, last - 1)", x.next(0, LAST_MINUTE - 1), LAST_MINUTE);
        CHECK.due("next(0, last)", x.next(0, LAST_MINUTE), -2);
        CHECK.due("next(0, MAX)", x.next(0, Long.MAX_VALUE), -2);
        CHECK.due("previous(0, MAX)", x.previous(0, Long.MAX_VALUE), LAST_MINUTE);
        CHECK.due("previous(0, last + 1)", x.previous(0, LAST_MINUTE + 1), LAST_MINUTE);
        CHECK.due("previous(0, last)", x.previous(0, LAST_MINUTE), LAST_MINUTE - 1);
        CHECK.due("previous(0, 1440)", x.previous(0, 1440), 1439);
        CHECK.due("previous(0, 1)", x.previous(0, 1), 0);
        CHECK.due("previous(0, 0)", x.previous(0, 0), -2);
        CHECK.due("previous(0, MIN)", x.previous(0, Long.MIN_VALUE), -2);
    }

    private static void nextAndPreviousWithinADay() {
        CronCalendar x = new CronCalendar();
        x.allow(8 + Fields.MINUTES, 64 * 15 + 45, 30);
        x.allow(8 + Fields.HOURS, 64 * 8 + 20, 12);
        CHECK.due("from the day's begin", x.next(1, minute(5, 0, 0) - 1), minute(5, 8, 15));
        CHECK.due("just before", x.next(1, minute(5, 8, 14)), minute(5, 8, 15));
        CHECK.due("greater, not equal", x.next(1, minute(5, 8, 15)), minute(5, 8, 45));
        CHECK.due("to another hour", x.next(1, minute(5, 8, 45)), minute(5, 20, 15));
        CHECK.due("to another day", x.next(1, minute(5, 20, 45)), minute(6, 8, 15));
        CHECK.due("back from the day's end", x.previous(1, minute(6, 0, 0)), minute(5, 20, 45));
        CHECK.due("less, not equal", x.previous(1, minute(5, 20, 45)), minute(5, 20, 15));
        CHECK.due("back to another hour", x.previous(1, minute(5, 20, 15)), minute(5, 8, 45));
        CHECK.due("back to another day", x.previous(1, minute(5, 8, 15)), minute(4, 20, 45));
        CHECK.due("the first of all", x.next(1, -1), minute(0, 8, 15));
        CHECK.due("none before it", x.previous(1, minute(0, 8, 15)), -2);
        CHECK.due("the last of all", x.previous(1, Long.MAX_VALUE), minute(146096, 20, 45));
        CHECK.due("none after it", x.next(1, minute(146096, 20, 45)), -2);
    }

    private static void nextAndPreviousOverDays() {
        CronCalendar x = new CronCalendar();
        Fields.allowOnly(x, 3, Fields.MINUTES, 59);
        Fields.allowOnly(x, 3, Fields.HOURS, 23);
        Fields.allowOnly(x, 3, Fields.MONTH_DAYS, 31);
        CHECK.due("31 January to 31 March 2000", x.next(3, minute(30, 23, 59)), minute(90, 23, 59));
        CHECK.due("31 March to 31 January 2000", x.previous(3, minute(90, 23, 59)), minute(30, 23, 59));
        CHECK.due("31 December 2000 to 31 January 2001", x.next(3, minute(365, 23, 59)), minute(396, 23, 59));
        CHECK.due("31 January 2001 to 31 December 2000", x.previous(3, minute(396, 23, 59)), minute(365, 23, 59));
        CHECK.due("the last minute of all", x.next(3, LAST_MINUTE - 1), LAST_MINUTE);
        Fields.allowOnly(x, 3, Fields.WEEKDAYS, 5);
        CHECK.due("31st or Friday", x.next(3, minute(30, 23, 59)), minute(34, 23, 59));
        CHECK.due("31st or Friday, back", x.previous(3, minute(34, 23, 59)), minute(30, 23, 59));
        Fields.allowOnly(x, 3, Fields.MONTHS, 1);
        CHECK.due("31st or Friday, in January", x.next(3, minute(30, 23, 59)), minute(370, 23, 59));
        CHECK.due("31st or Friday, in January, back", x.previous(3, minute(370, 23, 59)), minute(30, 23, 59));
    }

    private static void theFirstOfTheMonths() {
        CronCalendar x = new CronCalendar();
        Fields.allowOnly(x, 0, Fields.MONTH_DAYS, 1);
        CHECK.due("the first minute of 1 February 2000", x.next(0, minute(0, 23, 59)), minute(31, 0, 0));
        CHECK.due("the last minute of 1 February 2000", x.previous(0, minute(60, 0, 0)), minute(31, 23, 59));
        CHECK.due("the last minute of 1 January 2000", x.previous(0, minute(31, 0, 0)), minute(0, 23, 59));
        CHECK.due("1 December 2399 is the last", x.next(0, minute(146065, 0, 0)), minute(146066, 0, 0));
        CHECK.due("1 January 2400 is no good day", x.next(0, minute(146066, 23, 59)), -2);
        Fields.allowOnly(x, 0, Fields.MONTH_DAYS, 2);
        CHECK.due("2 January 2000 is the first", x.previous(0, minute(2, 0, 0)), minute(1, 23, 59));
        CHECK.due("2 December 1999 is no good day", x.previous(0, minute(1, 0, 0)), -2);
    }

    private static void aLeapDayIsFarAway() {
        CronCalendar x = new CronCalendar();
        Fields.allowOnly(x, 0, Fields.MINUTES, 7);
        Fields.allowOnly(x, 0, Fields.HOURS, 12);
        Fields.allowOnly(x, 0, Fields.MONTH_DAYS, 29);
        Fields.allowOnly(x, 0, Fields.MONTHS, 2);
        CHECK.due("from 2096 to 2104", x.next(0, minute(35123, 12, 7)), minute(38044, 12, 7));
        CHECK.due("from 2104 to 2096", x.previous(0, minute(38044, 12, 7)), minute(35123, 12, 7));
        CHECK.due("the first", x.next(0, -1), minute(59, 12, 7));
        CHECK.due("the last", x.previous(0, Long.MAX_VALUE), minute(144695, 12, 7));
        CHECK.due("none after the last", x.next(0, minute(144695, 12, 7)), -2);
        CHECK.due("none before the first", x.previous(0, minute(59, 12, 7)), -2);
    }

    private static void nothingIsEverDue() {
        CronCalendar x = new CronCalendar();
        Fields.allowOnly(x, 0, Fields.MONTH_DAYS, 30);
        Fields.allowOnly(x, 0, Fields.MONTHS, 2);
        CHECK.due("no 30 February after", x.next(0, Long.MIN_VALUE), -2);
        CHECK.due("no 30 February before", x.previous(0, Long.MAX_VALUE), -2);
        CHECK.due("no 30 February in 1000 days", x.dueDays(0, 0, 1000), 0);
    }

    private static void nextAndPreviousRefuse() {
        CronCalendar x = new CronCalendar();
        for (int rule : new int[] {-1, 4, Integer.MIN_VALUE, Integer.MAX_VALUE}) {
            CHECK.due("next(" + rule + ", 0)", x.next(rule, 0), -1);
            CHECK.due("next(" + rule + ", MAX)", x.next(rule, Long.MAX_VALUE), -1);
            CHECK.due("previous(" + rule + ", 1)", x.previous(rule, 1), -1);
            CHECK.due("previous(" + rule + ", MIN)", x.previous(rule, Long.MIN_VALUE), -1);
        }
    }

    private static void dueOnCounts() {
        CronCalendar x = new CronCalendar();
        CHECK.due("all", x.dueOn(0, 0), 1440);
        CHECK.due("all on the last day", x.dueOn(0, 146096), 1440);
        x.allow(Fields.MINUTES, 59, 20);
        CHECK.due("3 minutes of 24 hours", x.dueOn(0, 0), 72);
        x.allow(Fields.HOURS, 23, 6);
        CHECK.due("3 minutes of 4 hours", x.dueOn(0, 0), 12);
        Fields.allowOnly(x, 0, Fields.WEEKDAYS, 0);
        CHECK.due("Saturday", x.dueOn(0, 0), 0);
        CHECK.due("Sunday", x.dueOn(0, 1), 12);
        Fields.allowOnly(x, 0, Fields.MONTH_DAYS, 1);
        CHECK.due("Saturday 1st", x.dueOn(0, 0), 12);
        Fields.allowOnly(x, 0, Fields.MONTHS, 2);
        CHECK.due("another month", x.dueOn(0, 0), 0);
    }

    private static void dueOnRefuses() {
        CronCalendar x = new CronCalendar();
        CHECK.due("dueOn(-1, -1)", x.dueOn(-1, -1), -1);
        CHECK.due("dueOn(4, 0)", x.dueOn(4, 0), -1);
        for (int day : new int[] {-1, 146097, Integer.MIN_VALUE, Integer.MAX_VALUE}) {
            CHECK.due("dueOn(0, " + day + ")", x.dueOn(0, day), -2);
        }
    }

    private static void dueDaysCounts() {
        CronCalendar x = new CronCalendar();
        Fields.allowOnly(x, 0, Fields.WEEKDAYS, 6);
        CHECK.due("no day", x.dueDays(0, 0, 0), 0);
        CHECK.due("one Saturday", x.dueDays(0, 0, 1), 1);
        CHECK.due("a Sunday", x.dueDays(0, 1, 1), 0);
        CHECK.due("the days end before the 2nd Saturday", x.dueDays(0, 0, 7), 1);
        CHECK.due("the days end with the 2nd Saturday", x.dueDays(0, 0, 8), 2);
        CHECK.due("1000 days", x.dueDays(0, 0, 1000), 143);
        // They run from a Sunday to a Friday.
        CHECK.due("the last 1000 days", x.dueDays(0, 145097, 1000), 142);
        Fields.allowOnly(x, 0, Fields.MINUTES, 0);
        Fields.allowOnly(x, 0, Fields.HOURS, 0);
        CHECK.due("days, not minutes", x.dueDays(0, 0, 8), 2);
    }

    private static void dueDaysRefuses() {
        CronCalendar x = new CronCalendar();
        CHECK.due("dueDays(-1, -1, -1)", x.dueDays(-1, -1, -1), -1);
        CHECK.due("dueDays(4, 0, 1)", x.dueDays(4, 0, 1), -1);
        CHECK.due("count -1", x.dueDays(0, 5, -1), -2);
        CHECK.due("count 1001", x.dueDays(0, 5, 1001), -2);
        CHECK.due("count MIN", x.dueDays(0, 5, Integer.MIN_VALUE), -2);
        CHECK.due("count MAX", x.dueDays(0, 5, Integer.MAX_VALUE), -2);
        CHECK.due("first -1", x.dueDays(0, -1, 2), -2);
        CHECK.due("first MIN", x.dueDays(0, Integer.MIN_VALUE, 1), -2);
        CHECK.due("first MAX", x.dueDays(0, Integer.MAX_VALUE, 1), -2);
        CHECK.due("first MAX and a sum that wraps", x.dueDays(0, Integer.MAX_VALUE, 1000), -2);
        CHECK.due("the last day", x.dueDays(0, 146096, 1), 1);
        CHECK.due("one day too many", x.dueDays(0, 146096, 2), -2);
        CHECK.due("1000 up to the last", x.dueDays(0, 145097, 1000), 1000);
        CHECK.due("1000 over the last", x.dueDays(0, 145098, 1000), -2);
        // Of no days at all, all are good, wherever they begin.
        CHECK.due("no day after the last", x.dueDays(0, 146097, 0), 0);
        CHECK.due("no day far after the last", x.dueDays(0, Integer.MAX_VALUE, 0), 0);
        CHECK.due("no day before the first", x.dueDays(0, -1, 0), 0);
    }

    private static void questionsChangeNothing() {
        CronCalendar x = new CronCalendar();
        Fields.allowOnly(x, 0, Fields.HOURS, 9);
        for (int round = 0; round < 2; round++) {
            CHECK.due("next again", x.next(0, 0), 540);
            CHECK.due("previous again", x.previous(0, 5000), minute(3, 9, 59));
            CHECK.due("fits again", x.fits(0, 540), 1);
            CHECK.due("dueOn again", x.dueOn(0, 3), 60);
            CHECK.due("dueDays again", x.dueDays(0, 3, 9), 9);
            CHECK.due("allowed again", x.allowed(0, Fields.HOURS, 8), 0);
        }
        CHECK.due("another field is still full", x.fill(0, Fields.MINUTES), 1);
        CHECK.due("the field is still not full", x.fill(0, Fields.HOURS), 0);
    }
}
