import java.time.DayOfWeek;
import java.time.LocalDate;
import java.time.temporal.ChronoUnit;
import java.time.temporal.IsoFields;
import java.time.temporal.TemporalAdjusters;
import java.util.Set;
import java.util.TreeSet;

/**
 * The document told a second time, over java.time and sets, with no thought for speed. It shares no
 * code and no way of reckoning with the class under test.
 */
final class Model {
    static final int LAST_DAY = 146096;
    private static final LocalDate DAY_0 = LocalDate.of(2000, 1, 1);
    private static final int[] LEAST = {0, 0, 1, 1, 0};
    private static final int[] GREATEST = {59, 23, 31, 12, 6};

    private final boolean[][] full = new boolean[4][5];
    private final Set<?>[][] sets = new Set<?>[4][5];

    Model() {
        for (int rule = 0; rule < 4; rule++) {
            for (int field = 0; field < 5; field++) {
                full[rule][field] = true;
            }
        }
    }

    private static boolean goodRule(int rule) {
        return 0 <= rule && rule <= 3;
    }

    private static boolean goodField(int field) {
        return 0 <= field && field <= 4;
    }

    static boolean goodDay(long day) {
        return 0 <= day && day <= LAST_DAY;
    }

    private static LocalDate dateOf(int day) {
        return DAY_0.plusDays(day);
    }

    private static int dayOf(LocalDate date) {
        return (int) ChronoUnit.DAYS.between(DAY_0, date);
    }

    private static int weekdayOf(LocalDate date) {
        return date.getDayOfWeek().getValue() % 7;
    }

    private boolean isAllowed(int rule, int field, int value) {
        return full[rule][field]
                ? LEAST[field] <= value && value <= GREATEST[field]
                : sets[rule][field].contains(value);
    }

    int allow(int what, int span, int step) {
        int rule = Math.floorDiv(what, 8);
        int field = Math.floorMod(what, 8);
        int from = Math.floorDiv(span, 64);
        int to = Math.floorMod(span, 64);
        if (!goodRule(rule)) return -1;
        if (!goodField(field)) return -2;
        if (from < LEAST[field] || to > GREATEST[field] || from > to) return -3;
        if (step < 1 || step > 59) return -4;
        Set<Integer> now = new TreeSet<>();
        for (int value = LEAST[field]; value <= GREATEST[field]; value++) {
            boolean before = !full[rule][field] && isAllowed(rule, field, value);
            boolean added = from <= value && value <= to && (value - from) % step == 0;
            if (before || added) now.add(value);
        }
        full[rule][field] = false;
        sets[rule][field] = now;
        return now.size();
    }

    int fill(int rule, int field) {
        if (!goodRule(rule)) return -1;
        if (!goodField(field)) return -2;
        int answer = full[rule][field] ? 1 : 0;
        full[rule][field] = true;
        return answer;
    }

    int allowed(int rule, int field, int value) {
        if (!goodRule(rule)) return -1;
        if (!goodField(field)) return -2;
        return isAllowed(rule, field, value) ? 1 : 0;
    }

    int day(int date) {
        if (date < 20000101 || date > 23991231) return -1;
        int year = date / 10000;
        int month = date / 100 % 100;
        int dayOfMonth = date % 100;
        if (month < 1 || month > 12 || dayOfMonth < 1) return -1;
        LocalDate first = LocalDate.of(year, month, 1);
        return dayOfMonth > first.lengthOfMonth() ? -1 : dayOf(first.withDayOfMonth(dayOfMonth));
    }

    int date(int day) {
        if (!goodDay(day)) return -1;
        LocalDate date = dateOf(day);
        return 10000 * date.getYear() + 100 * date.getMonthValue() + date.getDayOfMonth();
    }

    int weekday(int day) {
        return goodDay(day) ? weekdayOf(dateOf(day)) : -1;
    }

    int monthDays(int year, int month) {
        if (year < 2000 || year > 2399) return -1;
        if (month < 1 || month > 12) return -2;
        return LocalDate.of(year, month, 1).lengthOfMonth();
    }

    int dayOfYear(int day) {
        return goodDay(day) ? dateOf(day).getDayOfYear() : -1;
    }

    int week(int day) {
        if (!goodDay(day) || day < 2) return -1;
        LocalDate date = dateOf(day);
        return 100 * date.get(IsoFields.WEEK_BASED_YEAR) + date.get(IsoFields.WEEK_OF_WEEK_BASED_YEAR);
    }

    int addMonths(int day, int n) {
        if (!goodDay(day)) return -1;
        if (n < -4800 || n > 4800) return -2;
        int found = dayOf(dateOf(day).plusMonths(n));
        return goodDay(found) ? found : -3;
    }

    int nth(int year, int month, int weekday) {
        int n = Math.floorDiv(month, 100);
        int plainMonth = Math.floorMod(month, 100);
        if (year < 2000 || year > 2399) return -1;
        if (n < 1 || n > 5 || plainMonth < 1 || plainMonth > 12) return -2;
        if (weekday < 0 || weekday > 6) return -3;
        DayOfWeek wanted = DayOfWeek.of(weekday == 0 ? 7 : weekday);
        LocalDate first = LocalDate.of(year, plainMonth, 1);
        LocalDate found = first.with(TemporalAdjusters.dayOfWeekInMonth(n, wanted));
        return found.getMonthValue() == plainMonth ? dayOf(found) : -4;
    }

    private boolean dayFits(int rule, int day) {
        LocalDate date = dateOf(day);
        boolean byDate = isAllowed(rule, 2, date.getDayOfMonth());
        boolean byWeekday = isAllowed(rule, 4, weekdayOf(date));
        boolean fits = full[rule][2] || full[rule][4] ? byDate && byWeekday : byDate || byWeekday;
        return fits && isAllowed(rule, 3, date.getMonthValue());
    }

    private boolean timeFits(int rule, int time) {
        return isAllowed(rule, 1, time / 60) && isAllowed(rule, 0, time % 60);
    }

    int fits(int rule, long minute) {
        if (!goodRule(rule)) return -1;
        if (!goodDay(Math.floorDiv(minute, 1440L))) return -2;
        return dayFits(rule, (int) (minute / 1440)) && timeFits(rule, (int) (minute % 1440)) ? 1 : 0;
    }

    long next(int rule, long after) {
        if (!goodRule(rule)) return -1;
        for (int day = (int) Math.min(Math.max(after / 1440, 0), LAST_DAY); day <= LAST_DAY; day++) {
            if (!dayFits(rule, day)) continue;
            for (int time = 0; time < 1440; time++) {
                long minute = 1440L * day + time;
                if (minute > after && timeFits(rule, time)) return minute;
            }
        }
        return -2;
    }

    long previous(int rule, long before) {
        if (!goodRule(rule)) return -1;
        for (int day = (int) Math.min(Math.max(before / 1440, 0), LAST_DAY); day >= 0; day--) {
            if (!dayFits(rule, day)) continue;
            for (int time = 1439; time >= 0; time--) {
                long minute = 1440L * day + time;
                if (minute < before && timeFits(rule, time)) return minute;
            }
        }
        return -2;
    }

    int dueOn(int rule, int day) {
        if (!goodRule(rule)) return -1;
        if (!goodDay(day)) return -2;
        if (!dayFits(rule, day)) return 0;
        int due = 0;
        for (int time = 0; time < 1440; time++) {
            if (timeFits(rule, time)) due++;
        }
        return due;
    }

    int dueDays(int rule, int first, int count) {
        if (!goodRule(rule)) return -1;
        if (count < 0 || count > 1000) return -2;
        int due = 0;
        for (long day = first; day < (long) first + count; day++) {
            if (!goodDay(day)) return -2;
            if (dueOn(rule, (int) day) > 0) due++;
        }
        return due;
    }
}
