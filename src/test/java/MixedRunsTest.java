import java.util.Random;

/** All promises at once: long runs of mixed calls against the model, always the same ones. */
public final class MixedRunsTest {
    private static final Check CHECK = new Check();
    private static final int RUNS = 300;
    private static final int CALLS = 512;

    private final Random random;
    private final CronCalendar x = new CronCalendar();
    private final Model model = new Model();

    private MixedRunsTest(int seed) {
        random = new Random(seed);
    }

    public static void main(String[] args) {
        for (int run = 1; run <= RUNS; run++) {
            MixedRunsTest test = new MixedRunsTest(run);
            for (int call = 1; call <= CALLS; call++) {
                test.oneCall("run " + run + ", call " + call + ": ");
            }
        }
        CHECK.finish();
    }

    private int between(int least, int greatest) {
        return least + random.nextInt(greatest - least + 1);
    }

    private boolean seldom() {
        return random.nextInt(20) == 0;
    }

    private int rule() {
        return seldom() ? between(-2, 5) : between(0, 3);
    }

    private int field() {
        return seldom() ? between(-2, 6) : between(0, 4);
    }

    private int day() {
        switch (random.nextInt(8)) {
            case 0:
                return between(-3, 70);
            case 1:
                return between(Model.LAST_DAY - 70, Model.LAST_DAY + 3);
            case 2:
                return seldom() ? random.nextInt() : between(36500, 36900);
            default:
                return between(0, Model.LAST_DAY);
        }
    }

    private long minute() {
        return seldom() ? random.nextLong() : 1440L * day() + between(0, 1439);
    }

    private void oneCall(String name) {
        switch (random.nextInt(10)) {
            case 0:
                allow(name);
                break;
            case 1:
                fillOrAllowed(name);
                break;
            case 2:
                aDay(name);
                break;
            case 3:
                aMonth(name);
                break;
            default:
                due(name);
        }
    }

    private void allow(String name) {
        int rule = rule();
        int field = field();
        int known = field < 0 || field > 4 ? 0 : field;
        int from = between(Fields.LEAST[known], Fields.GREATEST[known]);
        int to = random.nextBoolean() ? from : between(from, Fields.GREATEST[known]);
        int what = 8 * rule + field;
        int span = seldom() ? between(-70, 4100) : 64 * from + to;
        int step = seldom() ? between(-1, 61) : between(1, 12);
        String call = name + "allow(" + what + ", " + span + ", " + step + ")";
        CHECK.due(call, x.allow(what, span, step), model.allow(what, span, step));
    }

    private void fillOrAllowed(String name) {
        int rule = rule();
        int field = field();
        if (random.nextBoolean()) {
            CHECK.due(name + "fill(" + rule + ", " + field + ")", x.fill(rule, field), model.fill(rule, field));
            return;
        }
        int value = between(-1, 64);
        String call = name + "allowed(" + rule + ", " + field + ", " + value + ")";
        CHECK.due(call, x.allowed(rule, field, value), model.allowed(rule, field, value));
    }

    private void aDay(String name) {
        int day = day();
        switch (random.nextInt(5)) {
            case 0:
                CHECK.due(name + "date(" + day + ")", x.date(day), model.date(day));
                break;
            case 1:
                CHECK.due(name + "weekday(" + day + ")", x.weekday(day), model.weekday(day));
                break;
            case 2:
                CHECK.due(name + "dayOfYear(" + day + ")", x.dayOfYear(day), model.dayOfYear(day));
                break;
            case 3:
                CHECK.due(name + "week(" + day + ")", x.week(day), model.week(day));
                break;
            default:
                int n = random.nextBoolean() ? between(-30, 30) : between(-4803, 4803);
                CHECK.due(name + "addMonths(" + day + ", " + n + ")", x.addMonths(day, n), model.addMonths(day, n));
        }
    }

    private void aMonth(String name) {
        int year = between(1998, 2401);
        int month = between(-1, 14);
        switch (random.nextInt(3)) {
            case 0:
                CHECK.due(name + "monthDays(" + year + ", " + month + ")", x.monthDays(year, month), model.monthDays(year, month));
                break;
            case 1:
                int date = seldom() ? random.nextInt() : 10000 * year + 100 * month + between(0, 33);
                CHECK.due(name + "day(" + date + ")", x.day(date), model.day(date));
                break;
            default:
                int both = seldom() ? random.nextInt() : 100 * between(0, 6) + month;
                int weekday = between(-1, 7);
                String call = name + "nth(" + year + ", " + both + ", " + weekday + ")";
                CHECK.due(call, x.nth(year, both, weekday), model.nth(year, both, weekday));
        }
    }

    private void due(String name) {
        int rule = rule();
        long minute = minute();
        int day = day();
        switch (random.nextInt(5)) {
            case 0:
                CHECK.due(name + "fits(" + rule + ", " + minute + ")", x.fits(rule, minute), model.fits(rule, minute));
                break;
            case 1:
                CHECK.due(name + "next(" + rule + ", " + minute + ")", x.next(rule, minute), model.next(rule, minute));
                break;
            case 2:
                CHECK.due(name + "previous(" + rule + ", " + minute + ")", x.previous(rule, minute), model.previous(rule, minute));
                break;
            case 3:
                CHECK.due(name + "dueOn(" + rule + ", " + day + ")", x.dueOn(rule, day), model.dueOn(rule, day));
                break;
            default:
                int count = seldom() ? between(-2, 1002) : between(0, 40);
                String call = name + "dueDays(" + rule + ", " + day + ", " + count + ")";
                CHECK.due(call, x.dueDays(rule, day, count), model.dueDays(rule, day, count));
        }
    }
}
