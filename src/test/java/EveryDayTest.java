/** Promises 5 to 12 for every day and every month there is, against the model. */
public final class EveryDayTest {
    private static final Check CHECK = new Check();
    private static final Model MODEL = new Model();

    public static void main(String[] args) {
        // A new object each time, because nothing is promised after the 512th call.
        for (int day = -3; day <= Model.LAST_DAY + 3; day++) {
            everythingOfADay(new CronCalendar(), day);
        }
        for (int year = 1999; year <= 2400; year++) {
            for (int month = 0; month <= 13; month++) {
                everythingOfAMonth(new CronCalendar(), year, month);
            }
        }
        CHECK.finish();
    }

    private static void everythingOfADay(CronCalendar x, int day) {
        String name = "(" + day + ")";
        CHECK.due("date" + name, x.date(day), MODEL.date(day));
        CHECK.due("weekday" + name, x.weekday(day), MODEL.weekday(day));
        CHECK.due("dayOfYear" + name, x.dayOfYear(day), MODEL.dayOfYear(day));
        CHECK.due("week" + name, x.week(day), MODEL.week(day));
        // Other distances for each day, so that near days have all of them between them.
        for (int n = -4800 + Math.floorMod(day, 1201); n <= 4800; n += 1201) {
            CHECK.due("addMonths(" + day + ", " + n + ")", x.addMonths(day, n), MODEL.addMonths(day, n));
        }
    }

    private static void everythingOfAMonth(CronCalendar x, int year, int month) {
        CHECK.due("monthDays(" + year + ", " + month + ")", x.monthDays(year, month), MODEL.monthDays(year, month));
        for (int dayOfMonth = 0; dayOfMonth <= 99; dayOfMonth++) {
            int date = 10000 * year + 100 * month + dayOfMonth;
            CHECK.due("day(" + date + ")", x.day(date), MODEL.day(date));
        }
        for (int n = 0; n <= 6; n++) {
            for (int weekday = -1; weekday <= 7; weekday++) {
                int both = 100 * n + month;
                String call = "nth(" + year + ", " + both + ", " + weekday + ")";
                CHECK.due(call, x.nth(year, both, weekday), MODEL.nth(year, both, weekday));
            }
        }
    }
}
