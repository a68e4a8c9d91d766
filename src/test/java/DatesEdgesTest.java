/** Promises 5 to 12, sentence by sentence: the edges that they name. */
public final class DatesEdgesTest {
    private static final Check CHECK = new Check();
    private static final int[] BAD_DAYS = {-1, -2, 146097, 146098, -146096, Integer.MIN_VALUE, Integer.MAX_VALUE};
    private static final int[] BAD_YEARS = {1999, 2400, 1600, 2800, 0, 1, -2000, Integer.MIN_VALUE, Integer.MAX_VALUE};
    private static final int[] LENGTHS = {31, 28, 31, 30, 31, 30, 31, 31, 30, 31, 30, 31};

    public static void main(String[] args) {
        dayOfTheEdges();
        dayOfLastDays();
        dayOfNoDate();
        dayOfNoGoodDay();
        dateAndWeekday();
        monthDays();
        monthDaysRefuses();
        dayOfYear();
        weeksBeginOnMonday();
        weeksAtTheTurnOfAYear();
        weeksOfTheFirstAndTheLastDays();
        weekRefuses();
        addMonthsWithTheSameDay();
        addMonthsWithTheLastDay();
        addMonthsAtItsLimits();
        addMonthsOutsideOfItsLimits();
        addMonthsToNoGoodDay();
        addMonthsRefusesDays();
        nthOfEachWeek();
        nthThatIsNotThere();
        nthRefusesYears();
        nthRefusesMonths();
        nthRefusesWeekdays();
        CHECK.finish();
    }

    private static boolean leap(int year) {
        return year == 2000 || year == 2004 || year == 2396;
    }

    private static int length(int year, int month) {
        return month == 2 && leap(year) ? 29 : LENGTHS[month - 1];
    }

    // ---- promise 5 ----

    private static void dayOfTheEdges() {
        CHECK.sentence("The day with this date");
        int[][] known = {
            {20000101, 0}, {20000102, 1}, {20000131, 30}, {20000201, 31}, {20000228, 58}, {20000229, 59},
            {20000301, 60}, {20001231, 365}, {20010101, 366}, {20010228, 424}, {20010301, 425}, {20040229, 1520},
            {20991231, 36524}, {21000101, 36525}, {21000228, 36583}, {21000301, 36584}, {22000101, 73049},
            {22000301, 73108}, {23000101, 109573}, {23000301, 109632}, {23960229, 144695}, {23991130, 146065},
            {23991201, 146066}, {23991230, 146095}, {23991231, 146096},
        };
        CronCalendar x = new CronCalendar();
        for (int[] pair : known) {
            CHECK.due("day(" + pair[0] + ")", x.day(pair[0]), pair[1]);
        }
    }

    private static void dayOfLastDays() {
        CHECK.sentence("-1 if there is no such good day");
        for (int year : new int[] {2000, 2001, 2004, 2100, 2200, 2300, 2396, 2399}) {
            CronCalendar x = new CronCalendar();
            for (int month = 1; month <= 12; month++) {
                int date = 10000 * year + 100 * month;
                int length = length(year, month);
                CHECK.due("day(" + date + ")", x.day(date), -1);
                int first = x.day(date + 1);
                CHECK.due("day(" + (date + length) + ")", x.day(date + length), first + length - 1);
                for (int dayOfMonth : new int[] {length + 1, 32, 33, 99}) {
                    CHECK.due("day(" + (date + dayOfMonth) + ")", x.day(date + dayOfMonth), -1);
                }
            }
        }
    }

    private static void dayOfNoDate() {
        for (int year : new int[] {2000, 2001, 2399}) {
            CronCalendar x = new CronCalendar();
            for (int month : new int[] {0, 13, 14, 50, 99}) {
                for (int dayOfMonth : new int[] {0, 1, 15, 31, 32}) {
                    int date = 10000 * year + 100 * month + dayOfMonth;
                    CHECK.due("day(" + date + ")", x.day(date), -1);
                }
            }
        }
    }

    private static void dayOfNoGoodDay() {
        int[] none = {
            19991201, 19991231, 24000101, 24000131, 24000229, 16000101, 28000101, 101, 229, 1231, 0, 1, -1,
            -101, -20000101, -20000229, -23991231, 99990101, 120000101, 1020000101, 200001010, 2000010,
            Integer.MIN_VALUE, Integer.MIN_VALUE + 20000101, Integer.MAX_VALUE
        };
        CronCalendar x = new CronCalendar();
        for (int date : none) {
            CHECK.due("day(" + date + ")", x.day(date), -1);
        }
    }

    // ---- promises 6 to 9 ----

    private static void dateAndWeekday() {
        CHECK.sentence("date and weekday: -1 if day is not good");
        CronCalendar x = new CronCalendar();
        int[][] known = {
            {0, 20000101, 6}, {1, 20000102, 0}, {30, 20000131, 1}, {31, 20000201, 2}, {58, 20000228, 1},
            {59, 20000229, 2}, {60, 20000301, 3}, {365, 20001231, 0}, {366, 20010101, 1}, {424, 20010228, 3},
            {425, 20010301, 4}, {36583, 21000228, 0}, {36584, 21000301, 1}, {73107, 22000228, 5},
            {73108, 22000301, 6}, {109631, 23000228, 3}, {109632, 23000301, 4}, {144695, 23960229, 4},
            {144696, 23960301, 5}, {146095, 23991230, 4}, {146096, 23991231, 5},
        };
        for (int[] row : known) {
            CHECK.due("date(" + row[0] + ")", x.date(row[0]), row[1]);
            CHECK.due("weekday(" + row[0] + ")", x.weekday(row[0]), row[2]);
        }
        for (int day : BAD_DAYS) {
            CHECK.due("date(" + day + ")", x.date(day), -1);
            CHECK.due("weekday(" + day + ")", x.weekday(day), -1);
        }
    }

    private static void monthDays() {
        CHECK.sentence("How many days a month of a year has");
        for (int year : new int[] {2000, 2001, 2004, 2100, 2200, 2300, 2396, 2399}) {
            CronCalendar x = new CronCalendar();
            for (int month = 1; month <= 12; month++) {
                CHECK.due("monthDays(" + year + ", " + month + ")", x.monthDays(year, month), length(year, month));
            }
        }
    }

    private static void monthDaysRefuses() {
        CHECK.sentence("monthDays: -1 if year is not in 2000 .. 2399; -2 if month is not in 1 .. 12");
        CronCalendar x = new CronCalendar();
        int[] badMonths = {0, 13, -1, -2, 14, 101, 112, Integer.MIN_VALUE, Integer.MAX_VALUE};
        for (int year : BAD_YEARS) {
            CHECK.due("monthDays(" + year + ", 1)", x.monthDays(year, 1), -1);
            CHECK.due("monthDays(" + year + ", 12)", x.monthDays(year, 12), -1);
            for (int month : badMonths) {
                CHECK.due("monthDays(" + year + ", " + month + ")", x.monthDays(year, month), -1);
            }
        }
        for (int month : badMonths) {
            CHECK.due("monthDays(2000, " + month + ")", x.monthDays(2000, month), -2);
            CHECK.due("monthDays(2399, " + month + ")", x.monthDays(2399, month), -2);
        }
    }

    private static void dayOfYear() {
        CHECK.sentence("The number of the day in its year, 1 for the 1st of January; -1 if day is not good");
        int[][] known = {
            {0, 1}, {1, 2}, {59, 60}, {60, 61}, {364, 365}, {365, 366}, {366, 1}, {730, 365}, {731, 1},
            {36524, 365}, {36525, 1}, {36583, 59}, {36584, 60}, {36889, 365}, {36890, 1}, {73048, 365}, {73049, 1},
            {109572, 365}, {109573, 1}, {145001, 366}, {145002, 1}, {145731, 365}, {145732, 1}, {146095, 364}, {146096, 365},
        };
        CronCalendar x = new CronCalendar();
        for (int[] pair : known) {
            CHECK.due("dayOfYear(" + pair[0] + ")", x.dayOfYear(pair[0]), pair[1]);
        }
        for (int day : BAD_DAYS) {
            CHECK.due("dayOfYear(" + day + ")", x.dayOfYear(day), -1);
        }
    }

    // ---- promise 10 ----

    private static void weeksBeginOnMonday() {
        CHECK.sentence("weeks begin on Monday");
        CronCalendar x = new CronCalendar();
        // Day 9814 is Saturday, 14 November 2026.
        int[] weeks = {202646, 202646, 202647, 202647, 202647, 202647, 202647, 202647, 202647, 202648};
        for (int i = 0; i < weeks.length; i++) {
            CHECK.due("week(" + (9814 + i) + ")", x.week(9814 + i), weeks[i]);
        }
    }

    private static void weeksAtTheTurnOfAYear() {
        CHECK.sentence("week 1 of a year is the first one with at least four days in that year");
        // A year, its 1st of January, the Monday of its week 1 and the week before: every weekday for
        // the 1st of January, before, in and after leap years.
        int[][] turns = {
            {2007, 2557, 2557, 200652}, // Monday
            {2024, 8766, 8766, 202352},
            {2001, 366, 366, 200052},
            {2002, 731, 730, 200152}, // Tuesday
            {2008, 2922, 2921, 200752},
            {2013, 4749, 4748, 201252},
            {2003, 1096, 1094, 200252}, // Wednesday
            {2020, 7305, 7303, 201952},
            {2025, 9132, 9130, 202452},
            {2015, 5479, 5476, 201452}, // Thursday
            {2004, 1461, 1458, 200352},
            {2009, 3288, 3285, 200852},
            {2010, 3653, 3656, 200953}, // Friday
            {2016, 5844, 5847, 201553},
            {2021, 7671, 7674, 202053},
            {2011, 4018, 4020, 201052}, // Saturday
            {2028, 10227, 10229, 202752},
            {2005, 1827, 1829, 200453},
            {2006, 2192, 2193, 200552}, // Sunday
            {2012, 4383, 4384, 201152},
            {2017, 6210, 6211, 201652},
        };
        for (int[] turn : turns) {
            CronCalendar x = new CronCalendar();
            int monday = turn[2];
            CHECK.due("1 January " + turn[0], x.day(10000 * turn[0] + 101), turn[1]);
            for (int day = monday - 7; day < monday + 14; day++) {
                int inYear = 100 * turn[0] + (day < monday + 7 ? 1 : 2);
                CHECK.due("week(" + day + ")", x.week(day), day < monday ? turn[3] : inYear);
            }
        }
    }

    private static void weeksOfTheFirstAndTheLastDays() {
        CronCalendar x = new CronCalendar();
        for (int day = 2; day <= 8; day++) {
            CHECK.due("week(" + day + ")", x.week(day), 200001);
        }
        CHECK.due("week(9)", x.week(9), 200002);
        CHECK.due("week(146084)", x.week(146084), 239950);
        for (int day = 146085; day <= 146091; day++) {
            CHECK.due("week(" + day + ")", x.week(day), 239951);
        }
        for (int day = 146092; day <= 146096; day++) {
            CHECK.due("week(" + day + ")", x.week(day), 239952);
        }
    }

    private static void weekRefuses() {
        CHECK.sentence("week: -1 if day is not good, or is one of the first two (whose week belongs to 1999)");
        CronCalendar x = new CronCalendar();
        CHECK.due("week(0)", x.week(0), -1);
        CHECK.due("week(1)", x.week(1), -1);
        CHECK.due("week(2)", x.week(2), 200001);
        for (int day : BAD_DAYS) {
            CHECK.due("week(" + day + ")", x.week(day), -1);
        }
    }

    // ---- promise 11 ----

    private static void added(CronCalendar x, int date, int n, int wanted) {
        int day = x.day(date);
        int got = x.addMonths(day, n);
        CHECK.due("the date of addMonths(day(" + date + "), " + n + ")", got < 0 ? got : x.date(got), wanted);
    }

    private static void addMonthsWithTheSameDay() {
        CHECK.sentence("The day n months later (earlier for n < 0) with the same day of the month");
        CronCalendar x = new CronCalendar();
        CHECK.due("addMonths(0, 0)", x.addMonths(0, 0), 0);
        CHECK.due("addMonths(146096, 0)", x.addMonths(146096, 0), 146096);
        CHECK.due("addMonths(0, 1)", x.addMonths(0, 1), 31);
        CHECK.due("addMonths(31, -1)", x.addMonths(31, -1), 0);
        CHECK.due("addMonths(146096, -1)", x.addMonths(146096, -1), 146065);
        added(x, 20011215, 1, 20020115);
        added(x, 20020115, -1, 20011215);
        added(x, 20011215, 12, 20021215);
        added(x, 20011215, -12, 20001215);
        added(x, 20011215, 13, 20030115);
        added(x, 20020115, -13, 20001215);
        added(x, 20011231, 1, 20020131);
        added(x, 20011231, 7, 20020731);
        added(x, 20010731, 1, 20010831);
        // The last day of a month is not kept as the last.
        added(x, 20010430, 1, 20010530);
        added(x, 20010228, 1, 20010328);
        added(x, 20000229, 1, 20000329);
        added(x, 20010228, -12, 20000228);
        added(x, 20000229, -1, 20000129);
        added(x, 20000229, 48, 20040229);
        added(x, 20000229, 4752, 23960229);
        added(x, 23960229, -4752, 20000229);
    }

    private static void addMonthsWithTheLastDay() {
        CHECK.sentence("or with the last day of the month if that is less");
        CronCalendar x = new CronCalendar();
        int[] lastDays = {131, 228, 331, 430, 531, 630, 731, 831, 930, 1031, 1130, 1231};
        for (int month = 1; month <= 12; month++) {
            added(x, 20010131, month - 1, 20010000 + lastDays[month - 1]);
            added(x, 20011231, month - 12, 20010000 + lastDays[month - 1]);
        }
        for (int dayOfMonth = 28; dayOfMonth <= 31; dayOfMonth++) {
            added(x, 20010100 + dayOfMonth, 1, 20010228);
            added(x, 20040100 + dayOfMonth, 1, dayOfMonth == 28 ? 20040228 : 20040229);
            added(x, 21000100 + dayOfMonth, 1, 21000228);
            added(x, 20010300 + dayOfMonth, -1, 20010228);
            added(x, 20040300 + dayOfMonth, -1, dayOfMonth == 28 ? 20040228 : 20040229);
            added(x, 22000300 + dayOfMonth, -1, 22000228);
        }
        added(x, 20000229, 12, 20010228);
        added(x, 20960229, 48, 21000228);
        added(x, 21040229, -48, 21000228);
        added(x, 20000229, 3600, 23000228);
        added(x, 20000229, 4776, 23980228);
    }

    private static void addMonthsAtItsLimits() {
        CHECK.sentence("n in -4800 .. 4800");
        CronCalendar x = new CronCalendar();
        added(x, 20000101, 4799, 23991201);
        added(x, 20000131, 4799, 23991231);
        added(x, 20000131, 4798, 23991130);
        added(x, 23991231, -4799, 20000131);
        added(x, 23991201, -4799, 20000101);
        added(x, 23991231, -4798, 20000229);
        for (int day : new int[] {0, 1, 30, 31, 59, 73048, 73049, 146065, 146066, 146096}) {
            CHECK.due("addMonths(" + day + ", 4800)", x.addMonths(day, 4800), -3);
            CHECK.due("addMonths(" + day + ", -4800)", x.addMonths(day, -4800), -3);
        }
    }

    private static void addMonthsOutsideOfItsLimits() {
        CHECK.sentence("-2 if n is not in -4800 .. 4800");
        CronCalendar x = new CronCalendar();
        int[] bad = {
            4801, -4801, 4802, -4802, 9600, -9600, Integer.MIN_VALUE, Integer.MIN_VALUE + 1, Integer.MIN_VALUE + 4800,
            Integer.MAX_VALUE, Integer.MAX_VALUE - 4800
        };
        for (int n : bad) {
            for (int day : new int[] {0, 30, 73048, 146096}) {
                CHECK.due("addMonths(" + day + ", " + n + ")", x.addMonths(day, n), -2);
            }
        }
    }

    private static void addMonthsToNoGoodDay() {
        CHECK.sentence("-3 if that day is not good");
        CronCalendar x = new CronCalendar();
        for (int day : new int[] {0, 15, 30}) {
            CHECK.due("addMonths(" + day + ", -1)", x.addMonths(day, -1), -3);
            CHECK.due("addMonths(" + day + ", -12)", x.addMonths(day, -12), -3);
            CHECK.due("addMonths(" + day + ", -4799)", x.addMonths(day, -4799), -3);
        }
        for (int day : new int[] {146066, 146080, 146096}) {
            CHECK.due("addMonths(" + day + ", 1)", x.addMonths(day, 1), -3);
            CHECK.due("addMonths(" + day + ", 12)", x.addMonths(day, 12), -3);
            CHECK.due("addMonths(" + day + ", 4799)", x.addMonths(day, 4799), -3);
        }
        CHECK.due("29 February 2000 - 2", x.addMonths(59, -2), -3);
        CHECK.due("29 February 2000 - 1", x.addMonths(59, -1), 28);
        CHECK.due("30 November 2399 + 2", x.addMonths(146065, 2), -3);
        CHECK.due("30 November 2399 + 1", x.addMonths(146065, 1), 146095);
    }

    private static void addMonthsRefusesDays() {
        CHECK.sentence("addMonths: -1 if day is not good");
        CronCalendar x = new CronCalendar();
        for (int day : BAD_DAYS) {
            // The day one month on from -1, or back from 146097, would be good.
            for (int n : new int[] {0, 1, -1, 4800, -4800, 4801, -4801, Integer.MIN_VALUE, Integer.MAX_VALUE}) {
                CHECK.due("addMonths(" + day + ", " + n + ")", x.addMonths(day, n), -1);
            }
        }
    }

    // ---- promise 12 ----

    private static void nthOfEachWeek() {
        CHECK.sentence("The n-th (1 .. 5) day with the weekday in a month");
        CronCalendar x = new CronCalendar();
        // January 2000 begins on a Saturday and December 2399 on a Wednesday.
        int[] january = {1, 2, 3, 4, 5, 6, 0};
        int[] december = {4, 5, 6, 0, 1, 2, 3};
        for (int weekday = 0; weekday <= 6; weekday++) {
            for (int n = 1; n <= 4; n++) {
                int inJanuary = january[weekday] + 7 * (n - 1);
                int inDecember = 146066 + december[weekday] + 7 * (n - 1);
                CHECK.due("January, " + n + ", " + weekday, x.nth(2000, 100 * n + 1, weekday), inJanuary);
                CHECK.due("December, " + n + ", " + weekday, x.nth(2399, 100 * n + 12, weekday), inDecember);
            }
        }
        CHECK.due("5th Saturday of January 2000", x.nth(2000, 501, 6), 28);
        CHECK.due("5th Sunday of January 2000", x.nth(2000, 501, 0), 29);
        CHECK.due("5th Monday of January 2000", x.nth(2000, 501, 1), 30);
        CHECK.due("5th Wednesday of December 2399", x.nth(2399, 512, 3), 146094);
        CHECK.due("5th Thursday of December 2399", x.nth(2399, 512, 4), 146095);
        CHECK.due("5th Friday of December 2399", x.nth(2399, 512, 5), 146096);
    }

    // Which weekdays a month has five times: as many as it has days beyond 28, from the weekday of its 1st on.
    private static void fifthWeekdays(int year, int month, int firstWeekday, int firstDay) {
        CronCalendar x = new CronCalendar();
        int beyond = length(year, month) - 28;
        for (int i = 0; i < 7; i++) {
            int weekday = (firstWeekday + i) % 7;
            String call = "nth(" + year + ", " + (500 + month) + ", " + weekday + ")";
            CHECK.due(call, x.nth(year, 500 + month, weekday), i < beyond ? firstDay + 28 + i : -4);
        }
    }

    private static void nthThatIsNotThere() {
        CHECK.sentence("-4 if there is no such day");
        fifthWeekdays(2000, 1, 6, 0);
        fifthWeekdays(2000, 2, 2, 31);
        fifthWeekdays(2000, 4, 6, 91);
        fifthWeekdays(2001, 2, 4, 397);
        fifthWeekdays(2001, 4, 0, 456);
        fifthWeekdays(2004, 2, 0, 1492);
        fifthWeekdays(2100, 2, 1, 36556);
        fifthWeekdays(2300, 2, 4, 109604);
        fifthWeekdays(2399, 11, 1, 146036);
        fifthWeekdays(2399, 12, 3, 146066);
    }

    private static void nthRefusesYears() {
        CHECK.sentence("nth: -1 if year is not in 2000 .. 2399");
        CronCalendar x = new CronCalendar();
        for (int year : BAD_YEARS) {
            CHECK.due("nth(" + year + ", 101, 0)", x.nth(year, 101, 0), -1);
            CHECK.due("nth(" + year + ", 512, 6)", x.nth(year, 512, 6), -1);
            CHECK.due("nth(" + year + ", 600, 0)", x.nth(year, 600, 0), -1);
            CHECK.due("nth(" + year + ", 101, 7)", x.nth(year, 101, 7), -1);
            CHECK.due("nth(" + year + ", 0, -1)", x.nth(year, 0, -1), -1);
        }
    }

    private static void nthRefusesMonths() {
        CHECK.sentence("-2 if month is not in 1 .. 12; month is 100 * n + the month (n outside of 1 .. 5 is the case of -2)");
        CronCalendar x = new CronCalendar();
        for (int month = 1; month <= 12; month++) {
            for (int n : new int[] {0, 6, 7, -1, -5, 10, 256 + 1, 1 << 24}) {
                CHECK.due("n " + n + ", month " + month, x.nth(2001, 100 * n + month, 0), -2);
            }
        }
        for (int n = 1; n <= 5; n++) {
            for (int month : new int[] {0, 13, 14, 50, 99}) {
                CHECK.due("n " + n + ", month " + month, x.nth(2001, 100 * n + month, 0), -2);
                CHECK.due("n " + n + ", month " + month + ", weekday 7", x.nth(2001, 100 * n + month, 7), -2);
            }
            CHECK.due("-" + n + "01", x.nth(2001, -100 * n - 1, 0), -2);
            CHECK.due("-" + n + "12", x.nth(2001, -100 * n - 12, 0), -2);
        }
        for (int month : new int[] {0, 100, 600, -1, -99, -100, Integer.MIN_VALUE, Integer.MAX_VALUE}) {
            CHECK.due("nth(2001, " + month + ", 0)", x.nth(2001, month, 0), -2);
            CHECK.due("nth(2001, " + month + ", -1)", x.nth(2001, month, -1), -2);
        }
    }

    private static void nthRefusesWeekdays() {
        CHECK.sentence("-3 if weekday is not in 0 .. 6");
        CronCalendar x = new CronCalendar();
        for (int weekday : new int[] {-1, 7, -7, 8, 13, 14, Integer.MIN_VALUE, Integer.MAX_VALUE}) {
            CHECK.due("nth(2000, 101, " + weekday + ")", x.nth(2000, 101, weekday), -3);
            CHECK.due("nth(2399, 412, " + weekday + ")", x.nth(2399, 412, weekday), -3);
            CHECK.due("nth(2001, 502, " + weekday + ")", x.nth(2001, 502, weekday), -3);
        }
    }
}
