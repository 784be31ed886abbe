/** Promise 4: cron. */
public final class Promise04Test {
    private static final int REFUSED = WheelScheduler.REFUSED;
    private static final int[] ALL = {1023, 255, 1023, 15, 127};

    public static void main(String[] args) {
        wrongSets();
        eachBit();
        dayRule();
        limits();
        jobsOfBothSorts();
        runsWhenDue();
        atTheEndOfTime();
        Check.end();
    }

    private static void wrongSets() {
        WheelScheduler x = new WheelScheduler(1);
        String before = Check.picture(x);
        for (int field = 0; field < 5; field++) {
            int[] wrong = {0, ALL[field] + 1, ALL[field] + 2, 2 * ALL[field] + 1, -1, -ALL[field] - 1, Integer.MIN_VALUE, Integer.MIN_VALUE + 1,
                Integer.MAX_VALUE};
            for (int set : wrong) {
                int[] s = ALL.clone();
                s[field] = set;
                Check.same("field " + field + " set " + set, x.cron(s[0], s[1], s[2], s[3], s[4]), REFUSED);
            }
        }
        Check.unchanged("refused sets", before, x);
    }

    private static void eachBit() {
        int[] ticks = {1, 10, 80, 800, 80};
        int[] cycle = {10, 80, 800, 3200, 560};
        for (int field = 0; field < 5; field++) {
            for (int bit = 0; 1 << bit <= ALL[field]; bit++) {
                int[] s = ALL.clone();
                s[field] = 1 << bit;
                WheelScheduler x = new WheelScheduler(1);
                Check.same("new", x.cron(s[0], s[1], s[2], s[3], s[4]), 0);
                Check.same("kind", x.about(0, 5), 3);
                int first = bit * ticks[field];
                int want = first > 0 ? first : ticks[field] > 1 ? 1 : cycle[field];
                Check.same("field " + field + " bit " + bit, x.due(0), want);
                x.advance(first + ticks[field] - 1);
                Check.same("field " + field + " bit " + bit + " again", x.due(0), first + cycle[field]);
            }
        }
    }

    /** At minute 0 of hour 0 alone, so that a due time tells the day. */
    private static void day(String name, int days, int weekdays, int... dueDays) {
        WheelScheduler x = new WheelScheduler(1);
        x.cron(1, 1, days, 15, weekdays);
        for (int day : dueDays) {
            Check.same(name + " after " + x.state(0), x.due(0), 80 * day);
            x.advance(80 * day - x.state(0));
        }
    }

    private static void dayRule() {
        day("both have some: one is enough", 1 << 2, 1 << 4, 2, 4, 11, 12, 18, 22, 25, 32);
        day("all weekdays: the day must fit", 1 << 2, 127, 2, 12, 22, 32);
        day("all days: the weekday must fit", 1023, 1 << 4, 4, 11, 18, 25, 32);
        day("all of both", 1023, 127, 1, 2, 3, 4);
        day("all but one weekday", 1 << 9, 126, 1, 2, 3, 4, 5, 6, 8, 9, 10, 11, 12, 13, 15);
        day("all but one day", 1022, 1, 1, 2, 3, 4, 5, 6, 7, 8, 9, 11, 12, 13, 14, 15, 16, 17, 18, 19, 21);
        WheelScheduler x = new WheelScheduler(1);
        x.cron(512, 128, 1023, 8, 32);
        Check.same("month and weekday", x.due(0), 33 * 80 + 79);
        x.cron(1, 1, 1, 1, 127);
        Check.same("first day of the year, later than now", x.due(1), 3200);
    }

    private static void limits() {
        WheelScheduler x = new WheelScheduler(1);
        for (int job = 0; job < 12; job++) {
            Check.same("number", x.cron(1, 1, 1, 1, 1), job);
        }
        String before = Check.picture(x);
        Check.same("13th", x.cron(1, 1, 1, 1, 1), REFUSED);
        Check.unchanged("13th cron job", before, x);
        x.give(5);
        Check.same("least free", x.cron(1, 1, 1, 1, 1), 5);
    }

    private static void jobsOfBothSorts() {
        WheelScheduler x = new WheelScheduler(1);
        for (int job = 0; job < 12; job++) {
            Check.same("number", job % 2 == 0 ? x.job(1, 5, 5) : x.cron(1, 1, 1, 1, 1), job);
        }
        Check.same("13th by cron", x.cron(1, 1, 1, 1, 1), REFUSED);
        Check.same("13th by job", x.job(1, 5, 5), REFUSED);
        x.give(8);
        x.give(3);
        Check.same("the least free by cron", x.cron(1, 1, 1, 1, 1), 3);
        Check.same("wrong sets", x.cron(1, 1, 1, 1, 0), REFUSED);
        Check.same("the other by cron", x.cron(1, 1, 1, 1, 1), 8);
        Check.same("its kind", x.about(8, 5), 3);
    }

    private static void runsWhenDue() {
        WheelScheduler x = new WheelScheduler(1);
        x.cron(1 << 3 | 1 << 7, 1 << 2, 1023, 15, 127);
        x.advance(22);
        Check.same("before", x.about(0, 0), 0);
        x.advance(1);
        Check.same("at 23", x.run(0, 2), 23);
        x.advance(4);
        Check.same("at 27", x.run(0, 2), 27);
        x.advance(76);
        Check.same("at 103", x.run(0, 2), 103);
        Check.same("three in all", x.about(0, 0), 3);
    }

    /** It is refused for its sets and for twelve jobs; that a job is never due is told by due. */
    private static void atTheEndOfTime() {
        WheelScheduler x = new WheelScheduler(1);
        Check.advanceTo(x, 1000000);
        for (int job = 0; job < 12; job++) {
            Check.same("a set too large", x.cron(1024, 255, 1023, 15, 127), REFUSED);
            Check.same("an empty set", x.cron(1023, 255, 1023, 0, 127), REFUSED);
            Check.same("made at the last time", x.cron(1023, 255, 1023, 15, 127), job);
            Check.same("never due", x.due(job), WheelScheduler.NEVER);
            Check.same("its kind", x.about(job, 5), 3);
        }
        Check.same("13th", x.cron(1023, 255, 1023, 15, 127), REFUSED);
        Check.same("it can be requested", x.request(11), 1);
    }
}
