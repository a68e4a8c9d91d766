/** Promises 5 to 12: days, dates, weekdays, weeks and months. */
public final class DatesTest {
    private static final Check CHECK = new Check();
    private static final int[] BAD_DAYS = {-1, 146097, -146097, Integer.MIN_VALUE, Integer.MAX_VALUE};
    private static final int[] BAD_YEARS = {1999, 2400, 0, -2000, Integer.MIN_VALUE, Integer.MAX_VALUE};

    // A day, its date, its weekday, its number in the year and its week.
    private static final int[][] KNOWN_DAYS = {
        {2, 20000103, 1, 3, 200001},
        {30, 20000131, 1, 31, 200005},
        {59, 20000229, 2, 60, 200009},
        {60, 20000301, 3, 61, 200009},
        {365, 20001231, 0, 366, 200052},
        {366, 20010101, 1, 1, 200101},
        {1520, 20040229, 0, 60, 200409},
        {3652, 20091231, 4, 365, 200953},
        {3655, 20100103, 0, 3, 200953},
        {3656, 20100104, 1, 4, 201001},
        {6939, 20181231, 1, 365, 201901},
        {7670, 20201231, 4, 366, 202053},
        {7673, 20210103, 0, 3, 202053},
        {7674, 20210104, 1, 4, 202101},
        {8401, 20230101, 0, 1, 202252},
        {9815, 20261115, 0, 319, 202646},
        {36583, 21000228, 0, 59, 210008},
        {36584, 21000301, 1, 60, 210009},
        {36889, 21001231, 5, 365, 210052},
        {73108, 22000301, 6, 60, 220009},
        {109632, 23000301, 4, 60, 230009},
        {144695, 23960229, 4, 60, 239609},
        {146096, 23991231, 5, 365, 239952},
    };

    public static void main(String[] args) {
        knownDays();
        dayRefuses();
        badDaysAreRefused();
        theFirstTwoDays();
        monthDaysOfTheYears();
        monthDaysRefuses();
        addMonthsKeepsTheDay();
        addMonthsRefuses();
        nthOfAMonth();
        nthRefusesInOrder();
        CHECK.finish();
    }

    private static void knownDays() {
        CronCalendar x = new CronCalendar();
        for (int[] known : KNOWN_DAYS) {
            int day = known[0];
            CHECK.due("day(" + known[1] + ")", x.day(known[1]), day);
            CHECK.due("date(" + day + ")", x.date(day), known[1]);
            CHECK.due("weekday(" + day + ")", x.weekday(day), known[2]);
            CHECK.due("dayOfYear(" + day + ")", x.dayOfYear(day), known[3]);
            CHECK.due("week(" + day + ")", x.week(day), known[4]);
        }
    }

    private static void dayRefuses() {
        int[] noDates = {
            19991231, 24000101, 20000001, 20001301, 20009901, 20000100, 20000132, 20000199, 20000230,
            20010229, 21000229, 22000229, 23000229, 20000431, 20000631, 20000931, 20001131, 23991232,
            23991301, 23990001, 20000000, 2000, 0, -1, -20000101, 120000101, 1020000101,
            Integer.MIN_VALUE, Integer.MAX_VALUE
        };
        CronCalendar x = new CronCalendar();
        for (int date : noDates) {
            CHECK.due("day(" + date + ")", x.day(date), -1);
        }
    }

    private static void badDaysAreRefused() {
        CronCalendar x = new CronCalendar();
        for (int day : BAD_DAYS) {
            CHECK.due("date(" + day + ")", x.date(day), -1);
            CHECK.due("weekday(" + day + ")", x.weekday(day), -1);
            CHECK.due("dayOfYear(" + day + ")", x.dayOfYear(day), -1);
            CHECK.due("week(" + day + ")", x.week(day), -1);
            CHECK.due("addMonths(" + day + ", 1)", x.addMonths(day, 1), -1);
            CHECK.due("addMonths(" + day + ", 4801)", x.addMonths(day, 4801), -1);
        }
    }

    private static void theFirstTwoDays() {
        CronCalendar x = new CronCalendar();
        CHECK.due("day(20000101)", x.day(20000101), 0);
        CHECK.due("date(0)", x.date(0), 20000101);
        CHECK.due("weekday(0)", x.weekday(0), 6);
        CHECK.due("weekday(1)", x.weekday(1), 0);
        CHECK.due("dayOfYear(0)", x.dayOfYear(0), 1);
        CHECK.due("week(0)", x.week(0), -1);
        CHECK.due("week(1)", x.week(1), -1);
        CHECK.due("week(2)", x.week(2), 200001);
    }

    private static void monthDaysOfTheYears() {
        int[] lengths = {31, 28, 31, 30, 31, 30, 31, 31, 30, 31, 30, 31};
        int[][] years = {{2000, 29}, {2001, 28}, {2004, 29}, {2100, 28}, {2200, 28}, {2300, 28}, {2396, 29}, {2399, 28}};
        CronCalendar x = new CronCalendar();
        for (int[] year : years) {
            for (int month = 1; month <= 12; month++) {
                int want = month == 2 ? year[1] : lengths[month - 1];
                CHECK.due("monthDays(" + year[0] + ", " + month + ")", x.monthDays(year[0], month), want);
            }
        }
    }

    private static void monthDaysRefuses() {
        CronCalendar x = new CronCalendar();
        for (int year : BAD_YEARS) {
            CHECK.due("monthDays(" + year + ", 1)", x.monthDays(year, 1), -1);
            CHECK.due("monthDays(" + year + ", 13)", x.monthDays(year, 13), -1);
        }
        for (int month : new int[] {0, 13, -1, Integer.MIN_VALUE, Integer.MAX_VALUE}) {
            CHECK.due("monthDays(2000, " + month + ")", x.monthDays(2000, month), -2);
            CHECK.due("monthDays(2399, " + month + ")", x.monthDays(2399, month), -2);
        }
    }

    private static void addMonthsKeepsTheDay() {
        CronCalendar x = new CronCalendar();
        CHECK.due("nothing added", x.addMonths(9815, 0), 9815);
        CHECK.due("31 January 2000 + 1", x.addMonths(30, 1), 59);
        CHECK.due("31 January 2000 + 13", x.addMonths(30, 13), 424);
        CHECK.due("31 January 2000 + 12", x.addMonths(30, 12), 396);
        CHECK.due("29 February 2000 + 12", x.addMonths(59, 12), 424);
        CHECK.due("29 February 2000 + 48", x.addMonths(59, 48), 1520);
        CHECK.due("29 February 2000 - 1", x.addMonths(59, -1), 28);
        CHECK.due("28 February 2001 - 12", x.addMonths(424, -12), 58);
        CHECK.due("31 December 2000 + 1", x.addMonths(365, 1), 396);
        CHECK.due("31 December 2000 - 11", x.addMonths(365, -11), 30);
        CHECK.due("31 December 2000 - 10", x.addMonths(365, -10), 59);
        CHECK.due("the least to the last month", x.addMonths(0, 4799), 146066);
        CHECK.due("31 January 2000 to the last day", x.addMonths(30, 4799), 146096);
        CHECK.due("the last day to the first month", x.addMonths(146096, -4799), 30);
        CHECK.due("the last day - 1", x.addMonths(146096, -1), 146065);
    }

    private static void addMonthsRefuses() {
        CronCalendar x = new CronCalendar();
        for (int n : new int[] {4801, -4801, Integer.MIN_VALUE, Integer.MAX_VALUE}) {
            CHECK.due("addMonths(0, " + n + ")", x.addMonths(0, n), -2);
            CHECK.due("addMonths(146096, " + n + ")", x.addMonths(146096, n), -2);
        }
        CHECK.due("addMonths(0, 4800)", x.addMonths(0, 4800), -3);
        CHECK.due("addMonths(0, -4800)", x.addMonths(0, -4800), -3);
        CHECK.due("addMonths(146096, 4800)", x.addMonths(146096, 4800), -3);
        CHECK.due("addMonths(146096, -4800)", x.addMonths(146096, -4800), -3);
        CHECK.due("addMonths(30, -1)", x.addMonths(30, -1), -3);
        CHECK.due("addMonths(31, -1)", x.addMonths(31, -1), 0);
        CHECK.due("addMonths(146066, 1)", x.addMonths(146066, 1), -3);
        CHECK.due("addMonths(146065, 1)", x.addMonths(146065, 1), 146095);
    }

    private static void nthOfAMonth() {
        CronCalendar x = new CronCalendar();
        CHECK.due("1st Saturday of January 2000", x.nth(2000, 101, 6), 0);
        CHECK.due("1st Sunday of January 2000", x.nth(2000, 101, 0), 1);
        CHECK.due("1st Friday of January 2000", x.nth(2000, 101, 5), 6);
        CHECK.due("2nd Saturday of January 2000", x.nth(2000, 201, 6), 7);
        CHECK.due("5th Saturday of January 2000", x.nth(2000, 501, 6), 28);
        CHECK.due("5th Monday of January 2000", x.nth(2000, 501, 1), 30);
        CHECK.due("5th Tuesday of January 2000", x.nth(2000, 501, 2), -4);
        CHECK.due("5th Tuesday of February 2000", x.nth(2000, 502, 2), 59);
        CHECK.due("5th Wednesday of February 2000", x.nth(2000, 502, 3), -4);
        CHECK.due("3rd Sunday of November 2026", x.nth(2026, 311, 0), 9815);
        CHECK.due("5th Friday of December 2399", x.nth(2399, 512, 5), 146096);
        CHECK.due("5th Saturday of December 2399", x.nth(2399, 512, 6), -4);
        CHECK.due("4th Sunday of February 2100", x.nth(2100, 402, 0), 36583);
        for (int weekday = 0; weekday < 7; weekday++) {
            CHECK.due("no 5th weekday in February 2100", x.nth(2100, 502, weekday), -4);
        }
    }

    private static void nthRefusesInOrder() {
        CronCalendar x = new CronCalendar();
        for (int year : BAD_YEARS) {
            CHECK.due("nth(" + year + ", 101, 0)", x.nth(year, 101, 0), -1);
            CHECK.due("nth(" + year + ", 0, 7)", x.nth(year, 0, 7), -1);
        }
        int[] badMonths = {0, 1, 12, 99, 100, 113, 199, 500, 513, 600, 601, 612, -1, -101, -99, -499, -512, Integer.MIN_VALUE, Integer.MAX_VALUE};
        for (int month : badMonths) {
            CHECK.due("nth(2001, " + month + ", 0)", x.nth(2001, month, 0), -2);
            CHECK.due("nth(2001, " + month + ", 7)", x.nth(2001, month, 7), -2);
        }
        for (int weekday : new int[] {-1, 7, Integer.MIN_VALUE, Integer.MAX_VALUE}) {
            CHECK.due("nth(2001, 502, " + weekday + ")", x.nth(2001, 502, weekday), -3);
        }
        CHECK.due("nth(2001, 502, 0)", x.nth(2001, 502, 0), -4);
    }
}
