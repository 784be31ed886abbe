/** The part 'Terms', its time and calendar: the edges of time and of each field, and the sets of CRON jobs. */
public final class TermsCalendarTest {
    private static final int ALL_DAYS = 1023, ALL_WEEKDAYS = 127;

    public static void main(String[] args) {
        timeIsAtMostAMillion();
        fieldsAtTheirEdges();
        cronAtTheEdgesOfEachField();
        minuteHourAndMonthMustFit();
        dayAndWeekdayWhenOneSetHasAll();
        dayOrWeekdayWhenNeitherHasAll();
        longestWait();
        Check.end();
    }

    private static void timeIsAtMostAMillion() {
        int[] ticks = {1, 2, 30000};
        for (int n : ticks) {
            WheelScheduler x = new WheelScheduler(1);
            Check.advanceTo(x, 999999);
            Check.same("advance " + n + " from 999999", x.advance(n), 1000000);
            Check.same("the time then", x.state(0), 1000000);
            Check.same("advance " + n + " from 1000000", x.advance(n), 1000000);
            Check.same("the time still", x.state(0), 1000000);
        }
    }

    /** Each row: a time, then its minute, hour, day, month and weekday. */
    private static void fieldsAtTheirEdges() {
        int[][] rows = {
            {0, 0, 0, 1, 1, 0},
            {9, 9, 0, 1, 1, 0}, {10, 0, 1, 1, 1, 0},
            {79, 9, 7, 1, 1, 0}, {80, 0, 0, 2, 1, 1},
            {559, 9, 7, 7, 1, 6}, {560, 0, 0, 8, 1, 0},
            {799, 9, 7, 10, 1, 2}, {800, 0, 0, 1, 2, 3},
            {2399, 9, 7, 10, 3, 1}, {2400, 0, 0, 1, 4, 2},
            {3199, 9, 7, 10, 4, 4}, {3200, 0, 0, 1, 1, 5},
            {22399, 9, 7, 10, 4, 6}, {22400, 0, 0, 1, 1, 0},
            {999999, 9, 7, 10, 2, 4}, {1000000, 0, 0, 1, 3, 5}};
        String[] names = {"minute", "hour", "day", "month", "weekday"};
        WheelScheduler x = new WheelScheduler(1);
        for (int[] row : rows) {
            Check.advanceTo(x, row[0]);
            for (int field = 0; field < 5; field++) {
                Check.same(names[field] + " at " + row[0], x.state(5 + field), row[1 + field]);
            }
        }
    }

    private static void cronDue(String name, int from, int due, int... sets) {
        WheelScheduler x = new WheelScheduler(1);
        Check.advanceTo(x, from);
        x.cron(sets[0], sets[1], sets[2], sets[3], sets[4]);
        Check.same(name + ", made at " + from, x.due(0), due);
        Check.advanceTo(x, due - 1);
        Check.same(name + ", a tick before " + due, x.about(0, 0), 0);
        x.advance(1);
        Check.same(name + ", at " + due, x.about(0, 0), 1);
    }

    private static void cronAtTheEdgesOfEachField() {
        cronDue("minute 0", 9, 10, 1, 255, ALL_DAYS, 15, ALL_WEEKDAYS);
        cronDue("minute 0", 0, 10, 1, 255, ALL_DAYS, 15, ALL_WEEKDAYS);
        cronDue("minute 9", 8, 9, 512, 255, ALL_DAYS, 15, ALL_WEEKDAYS);
        cronDue("minute 9", 9, 19, 512, 255, ALL_DAYS, 15, ALL_WEEKDAYS);
        cronDue("hour 0", 79, 80, 1023, 1, ALL_DAYS, 15, ALL_WEEKDAYS);
        cronDue("hour 0", 9, 80, 1023, 1, ALL_DAYS, 15, ALL_WEEKDAYS);
        cronDue("hour 7", 69, 70, 1023, 128, ALL_DAYS, 15, ALL_WEEKDAYS);
        cronDue("hour 7", 79, 150, 1023, 128, ALL_DAYS, 15, ALL_WEEKDAYS);
        cronDue("day 1", 799, 800, 1023, 255, 1, 15, ALL_WEEKDAYS);
        cronDue("day 1", 79, 800, 1023, 255, 1, 15, ALL_WEEKDAYS);
        cronDue("day 10", 719, 720, 1023, 255, 512, 15, ALL_WEEKDAYS);
        cronDue("day 10", 799, 1520, 1023, 255, 512, 15, ALL_WEEKDAYS);
        cronDue("month 1", 3199, 3200, 1023, 255, ALL_DAYS, 1, ALL_WEEKDAYS);
        cronDue("month 1", 799, 3200, 1023, 255, ALL_DAYS, 1, ALL_WEEKDAYS);
        cronDue("month 4", 2399, 2400, 1023, 255, ALL_DAYS, 8, ALL_WEEKDAYS);
        cronDue("month 4", 3199, 5600, 1023, 255, ALL_DAYS, 8, ALL_WEEKDAYS);
        cronDue("weekday 0", 559, 560, 1023, 255, ALL_DAYS, 15, 1);
        cronDue("weekday 0", 79, 560, 1023, 255, ALL_DAYS, 15, 1);
        cronDue("weekday 6", 479, 480, 1023, 255, ALL_DAYS, 15, 64);
        cronDue("weekday 6", 559, 1040, 1023, 255, ALL_DAYS, 15, 64);
    }

    private static void minuteHourAndMonthMustFit() {
        cronDue("minute 3 of hour 2 of month 3", 0, 1623, 1 << 3, 1 << 2, ALL_DAYS, 1 << 2, ALL_WEEKDAYS);
        cronDue("the same on its next day", 1623, 1703, 1 << 3, 1 << 2, ALL_DAYS, 1 << 2, ALL_WEEKDAYS);
        cronDue("the same in its next year", 2343, 4823, 1 << 3, 1 << 2, ALL_DAYS, 1 << 2, ALL_WEEKDAYS);
        cronDue("a day that fits does not stand for a month", 0, 1600, 1, 1, 1, 1 << 2, ALL_WEEKDAYS);
        cronDue("nor for an hour", 0, 20, 1, 1 << 2, 1, 15, 1);
    }

    /** On how many of 280 days, after which calendar and week meet again, it is due at minute 9 of hour 7. */
    private static void daysOf280(String name, int days, int weekdays, int want, int... firstDays) {
        WheelScheduler x = new WheelScheduler(1);
        x.cron(512, 128, days, 15, weekdays);
        for (int day : firstDays) {
            Check.same(name + ", due", x.due(0), 80 * day + 79);
            Check.advanceTo(x, 80 * day + 79);
        }
        Check.advanceTo(x, 22400);
        Check.same(name + ", days in all", x.about(0, 0), want);
    }

    private static void dayAndWeekdayWhenOneSetHasAll() {
        daysOf280("all days, one weekday", ALL_DAYS, 1 << 4, 40, 4, 11, 18, 25);
        daysOf280("all days, all weekdays but one", ALL_DAYS, ALL_WEEKDAYS - 1, 240, 1, 2, 3, 4, 5, 6, 8);
        daysOf280("one day, all weekdays", 1 << 2, ALL_WEEKDAYS, 28, 2, 12, 22, 32);
        daysOf280("all days but one, all weekdays", ALL_DAYS - 1, ALL_WEEKDAYS, 252, 1, 2, 3, 4, 5, 6, 7, 8, 9, 11);
        daysOf280("all of both", ALL_DAYS, ALL_WEEKDAYS, 280, 0, 1, 2, 3);
    }

    private static void dayOrWeekdayWhenNeitherHasAll() {
        daysOf280("one day, one weekday", 1 << 2, 1 << 4, 64, 2, 4, 11, 12, 18, 22, 25, 32, 39);
        daysOf280("all but one of both", ALL_DAYS - 1, ALL_WEEKDAYS - 1, 276, 1, 2);
        daysOf280("the first of both", 1, 1, 64, 0, 7, 10, 14, 20, 21);
        daysOf280("the last of both", 512, 64, 64, 6, 9, 13, 19, 20);
    }

    /** A month that has a weekday once may be followed a year later by one that has it later in the month. */
    private static void longestWait() {
        cronDue("weekday 4 of month 1", 399, 46 * 80 + 79, 512, 128, ALL_DAYS, 1, 1 << 4);
        cronDue("day 1 of month 1", 1, 3200, 1, 1, 1, 1, ALL_WEEKDAYS);
    }
}
