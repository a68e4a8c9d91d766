/**
 * A calendar of the days 2000-01-01 .. 2399-12-31, and four rules for when something is due next.
 * What each method promises is told in DOC.md, promises 1 to 18.
 *
 * <p>Inside, months are counted through from 0 (January 2000) to 4799 (December 2399) and called
 * month numbers, so that going on to another month needs no care for the year.
 */
public final class CronCalendar {
    private static final int FIRST_YEAR = 2000;
    private static final int LAST_YEAR = 2399;
    private static final int LAST_DAY = 146096;
    private static final int MONTH_NUMBERS = 4800;
    private static final int WEEKDAY_OF_DAY_0 = 6;
    private static final int DAY_MINUTES = 1440;
    private static final long LAST_MINUTE = 210379679L;
    private static final int MOST_MONTHS_ADDED = 4800;
    private static final int MOST_DAYS_COUNTED = 1000;

    private static final int RULES = 4;
    private static final int FIELDS = 5;
    private static final int PLACES = 20;
    private static final int MINUTES = 0;
    private static final int HOURS = 1;
    private static final int MONTH_DAYS = 2;
    private static final int MONTHS = 3;
    private static final int WEEKDAYS = 4;
    private static final int GREATEST_STEP = 59;

    private static final int NONE = -1;

    // One place for each field of each rule; bit v at a place stands for the value v.
    private final long[] values = new long[PLACES];

    // Kept beside the values, because a field with all its values allowed need not be full.
    private final boolean[] full = new boolean[PLACES];

    public CronCalendar() {
        for (int rule = 0; rule < RULES; rule++) {
            for (int field = 0; field < FIELDS; field++) {
                makeFull(rule, field);
            }
        }
    }

    public int allow(int what, int span, int step) {
        int rule = what >> 3;
        int field = what & 7;
        if (!goodRule(rule)) {
            return -1;
        }
        if (!goodField(field)) {
            return -2;
        }
        int from = span >> 6;
        int to = span & 63;
        if (!isValue(field, from) || !isValue(field, to) || from > to) {
            return -3;
        }
        if (step < 1 || step > GREATEST_STEP) {
            return -4;
        }
        int place = place(rule, field);
        long now = full[place] ? 0L : values[place];
        for (int value = from; value <= to; value += step) {
            now |= 1L << value;
        }
        values[place] = now;
        full[place] = false;
        return countValues(rule, field);
    }

    public int fill(int rule, int field) {
        if (!goodRule(rule)) {
            return -1;
        }
        if (!goodField(field)) {
            return -2;
        }
        boolean before = isFull(rule, field);
        makeFull(rule, field);
        return before ? 1 : 0;
    }

    public int allowed(int rule, int field, int value) {
        if (!goodRule(rule)) {
            return -1;
        }
        if (!goodField(field)) {
            return -2;
        }
        return isValue(field, value) && has(rule, field, value) ? 1 : 0;
    }

    public int day(int date) {
        int year = date / 10000;
        int month = date / 100 % 100;
        int dayOfMonth = date % 100;
        if (!goodYear(year) || !isValue(MONTHS, month)) {
            return -1;
        }
        if (dayOfMonth < 1 || dayOfMonth > lengthOfMonth(year, month)) {
            return -1;
        }
        int number = monthNumber(year, month);
        return firstDayOf(number) + dayOfMonth - 1;
    }

    public int date(int day) {
        if (!goodDay(day)) {
            return -1;
        }
        int number = monthNumberOf(day);
        int dayOfMonth = day - firstDayOf(number) + 1;
        return 10000 * yearOfMonth(number) + 100 * monthOfYear(number) + dayOfMonth;
    }

    public int weekday(int day) {
        return goodDay(day) ? weekdayOf(day) : -1;
    }

    public int monthDays(int year, int month) {
        if (!goodYear(year)) {
            return -1;
        }
        if (!isValue(MONTHS, month)) {
            return -2;
        }
        return lengthOfMonth(year, month);
    }

    public int dayOfYear(int day) {
        return goodDay(day) ? daysPassedInYear(day) + 1 : -1;
    }

    public int week(int day) {
        if (!goodDay(day)) {
            return -1;
        }
        // The year with at least four days of a week is the one that has its Thursday.
        int daysSinceMonday = (weekdayOf(day) + 6) % 7;
        int thursday = day - daysSinceMonday + 3;
        if (!goodDay(thursday)) {
            return -1;
        }
        return 100 * yearOf(thursday) + daysPassedInYear(thursday) / 7 + 1;
    }

    public int addMonths(int day, int n) {
        if (!goodDay(day)) {
            return -1;
        }
        if (n < -MOST_MONTHS_ADDED || n > MOST_MONTHS_ADDED) {
            return -2;
        }
        int source = monthNumberOf(day);
        int target = source + n;
        if (target < 0 || target >= MONTH_NUMBERS) {
            return -3;
        }
        int sameDay = firstDayOf(target) + day - firstDayOf(source);
        int lastDay = firstDayOf(target + 1) - 1;
        return sameDay < lastDay ? sameDay : lastDay;
    }

    public int nth(int year, int month, int weekday) {
        int n = month / 100;
        int plainMonth = month % 100;
        if (!goodYear(year)) {
            return -1;
        }
        if (n < 1 || n > 5 || !isValue(MONTHS, plainMonth)) {
            return -2;
        }
        if (!isValue(WEEKDAYS, weekday)) {
            return -3;
        }
        int number = monthNumber(year, plainMonth);
        int first = firstDayOf(number);
        int daysUntilWeekday = (weekday - weekdayOf(first) + 7) % 7;
        int found = first + daysUntilWeekday + 7 * (n - 1);
        return found < firstDayOf(number + 1) ? found : -4;
    }

    public int fits(int rule, long minute) {
        if (!goodRule(rule)) {
            return -1;
        }
        if (minute < 0 || minute > LAST_MINUTE) {
            return -2;
        }
        int day = (int) (minute / DAY_MINUTES);
        int time = (int) (minute % DAY_MINUTES);
        return timeFits(rule, time) && dayFits(rule, day) ? 1 : 0;
    }

    public long next(int rule, long after) {
        if (!goodRule(rule)) {
            return -1;
        }
        if (after >= LAST_MINUTE) {
            return -2;
        }
        long start = after < 0 ? 0 : after + 1;
        int day = (int) (start / DAY_MINUTES);
        int time = firstFittingTime(rule, (int) (start % DAY_MINUTES));
        if (time == NONE || !dayFits(rule, day)) {
            day = firstFittingDay(rule, day + 1);
            time = firstFittingTime(rule, 0);
        }
        return day == NONE ? -2 : minuteOf(day, time);
    }

    public long previous(int rule, long before) {
        if (!goodRule(rule)) {
            return -1;
        }
        if (before <= 0) {
            return -2;
        }
        long start = before > LAST_MINUTE ? LAST_MINUTE : before - 1;
        int day = (int) (start / DAY_MINUTES);
        int time = lastFittingTime(rule, (int) (start % DAY_MINUTES));
        if (time == NONE || !dayFits(rule, day)) {
            day = lastFittingDay(rule, day - 1);
            time = lastFittingTime(rule, DAY_MINUTES - 1);
        }
        return day == NONE ? -2 : minuteOf(day, time);
    }

    public int dueOn(int rule, int day) {
        if (!goodRule(rule)) {
            return -1;
        }
        if (!goodDay(day)) {
            return -2;
        }
        return dayFits(rule, day) ? countValues(rule, HOURS) * countValues(rule, MINUTES) : 0;
    }

    public int dueDays(int rule, int first, int count) {
        if (!goodRule(rule)) {
            return -1;
        }
        if (count < 0 || count > MOST_DAYS_COUNTED) {
            return -2;
        }
        // Where no day is named, none of them can be bad, whatever first is.
        if (count > 0 && (first < 0 || first > LAST_DAY + 1 - count)) {
            return -2;
        }
        int due = 0;
        for (int i = 0; i < count; i++) {
            // No field is ever empty, so a day that fits has a minute that fits.
            if (dayFits(rule, first + i)) {
                due++;
            }
        }
        return due;
    }

    // ---- what is good ----

    private static boolean goodRule(int rule) {
        return rule >= 0 && rule < RULES;
    }

    private static boolean goodField(int field) {
        return field >= 0 && field < FIELDS;
    }

    private static boolean goodDay(int day) {
        return day >= 0 && day <= LAST_DAY;
    }

    private static boolean goodYear(int year) {
        return year >= FIRST_YEAR && year <= LAST_YEAR;
    }

    private static boolean isValue(int field, int value) {
        return value >= leastValue(field) && value <= greatestValue(field);
    }

    private static int leastValue(int field) {
        return field == MONTH_DAYS || field == MONTHS ? 1 : 0;
    }

    private static int greatestValue(int field) {
        switch (field) {
            case MINUTES:
                return 59;
            case HOURS:
                return 23;
            case MONTH_DAYS:
                return 31;
            case MONTHS:
                return 12;
            default:
                return 6;
        }
    }

    // ---- the fields of the rules ----

    private static int place(int rule, int field) {
        return FIELDS * rule + field;
    }

    private void makeFull(int rule, int field) {
        int place = place(rule, field);
        int greatest = greatestValue(field);
        long all = 0L;
        for (int value = leastValue(field); value <= greatest; value++) {
            all |= 1L << value;
        }
        values[place] = all;
        full[place] = true;
    }

    private boolean isFull(int rule, int field) {
        return full[place(rule, field)];
    }

    private boolean has(int rule, int field, int value) {
        return (values[place(rule, field)] >> value & 1L) == 1L;
    }

    private int countValues(int rule, int field) {
        int greatest = greatestValue(field);
        int count = 0;
        for (int value = leastValue(field); value <= greatest; value++) {
            if (has(rule, field, value)) {
                count++;
            }
        }
        return count;
    }

    // ---- years and months ----

    private static boolean leap(int year) {
        return year % 4 == 0 && (year % 100 != 0 || year % 400 == 0);
    }

    private static int lengthOfMonth(int year, int month) {
        switch (month) {
            case 2:
                return leap(year) ? 29 : 28;
            case 4:
            case 6:
            case 9:
            case 11:
                return 30;
            default:
                return 31;
        }
    }

    private static int firstDayOfYear(int year) {
        int years = year - FIRST_YEAR;
        // Rounded up, since the first of every 4, 100 and 400 years is the special one.
        int leapDays = (years + 3) / 4 - (years + 99) / 100 + (years + 399) / 400;
        return 365 * years + leapDays;
    }

    private static int yearOf(int day) {
        // The at most 97 leap days before a year can put this guess one year too late, not more.
        int guess = FIRST_YEAR + day / 365;
        return firstDayOfYear(guess) > day ? guess - 1 : guess;
    }

    private static int daysPassedInYear(int day) {
        int year = yearOf(day);
        return day - firstDayOfYear(year);
    }

    private static int monthNumber(int year, int month) {
        return 12 * (year - FIRST_YEAR) + month - 1;
    }

    private static int yearOfMonth(int number) {
        return FIRST_YEAR + number / 12;
    }

    private static int monthOfYear(int number) {
        return number % 12 + 1;
    }

    // Also answers for the month after the last one: the day after the last one.
    private static int firstDayOf(int number) {
        int year = yearOfMonth(number);
        int end = monthOfYear(number);
        int day = firstDayOfYear(year);
        for (int month = 1; month < end; month++) {
            day += lengthOfMonth(year, month);
        }
        return day;
    }

    private static int monthNumberOf(int day) {
        int year = yearOf(day);
        int daysPassed = day - firstDayOfYear(year);
        // The months shorter than 31 days can put this guess one month too early, not more.
        int guess = monthNumber(year, 1) + daysPassed / 31;
        return firstDayOf(guess + 1) > day ? guess : guess + 1;
    }

    private static int weekdayOf(int day) {
        return (day + WEEKDAY_OF_DAY_0) % 7;
    }

    private static long minuteOf(int day, int time) {
        return (long) DAY_MINUTES * day + time;
    }

    // ---- what fits a rule ----

    private boolean timeFits(int rule, int time) {
        return has(rule, HOURS, time / 60) && has(rule, MINUTES, time % 60);
    }

    private boolean dayFits(int rule, int day) {
        int number = monthNumberOf(day);
        int dayOfMonth = day - firstDayOf(number) + 1;
        return monthFits(rule, number) && dayOfMonthFits(rule, dayOfMonth, day);
    }

    private boolean monthFits(int rule, int number) {
        int month = monthOfYear(number);
        return has(rule, MONTHS, month);
    }

    private boolean dayOfMonthFits(int rule, int dayOfMonth, int day) {
        int weekday = weekdayOf(day);
        boolean byMonthDay = has(rule, MONTH_DAYS, dayOfMonth);
        boolean byWeekday = has(rule, WEEKDAYS, weekday);
        if (isFull(rule, MONTH_DAYS) || isFull(rule, WEEKDAYS)) {
            return byMonthDay && byWeekday;
        }
        return byMonthDay || byWeekday;
    }

    // ---- the search for what fits ----

    private int firstFittingTime(int rule, int start) {
        for (int time = start; time < DAY_MINUTES; time++) {
            if (timeFits(rule, time)) {
                return time;
            }
        }
        return NONE;
    }

    private int lastFittingTime(int rule, int start) {
        for (int time = start; time >= 0; time--) {
            if (timeFits(rule, time)) {
                return time;
            }
        }
        return NONE;
    }

    // The days are searched month by month, so that a month that is not allowed costs one look.
    private int firstFittingDay(int rule, int start) {
        if (!goodDay(start)) {
            return NONE;
        }
        for (int number = monthNumberOf(start); number < MONTH_NUMBERS; number++) {
            if (monthFits(rule, number)) {
                int found = firstFittingDayOfMonth(rule, number, start);
                if (found != NONE) {
                    return found;
                }
            }
        }
        return NONE;
    }

    private int firstFittingDayOfMonth(int rule, int number, int start) {
        int first = firstDayOf(number);
        int end = firstDayOf(number + 1);
        for (int day = start > first ? start : first; day < end; day++) {
            if (dayOfMonthFits(rule, day - first + 1, day)) {
                return day;
            }
        }
        return NONE;
    }

    private int lastFittingDay(int rule, int start) {
        if (!goodDay(start)) {
            return NONE;
        }
        for (int number = monthNumberOf(start); number >= 0; number--) {
            if (monthFits(rule, number)) {
                int found = lastFittingDayOfMonth(rule, number, start);
                if (found != NONE) {
                    return found;
                }
            }
        }
        return NONE;
    }

    private int lastFittingDayOfMonth(int rule, int number, int start) {
        int first = firstDayOf(number);
        int last = firstDayOf(number + 1) - 1;
        for (int day = start < last ? start : last; day >= first; day--) {
            if (dayOfMonthFits(rule, day - first + 1, day)) {
                return day;
            }
        }
        return NONE;
    }
}
