/** Promise 3: job. */
public final class Promise03Test {
    private static final int REFUSED = WheelScheduler.REFUSED, NEVER = WheelScheduler.NEVER;

    public static void main(String[] args) {
        wrongNumbers();
        edges();
        numbers();
        refusedTakesNoNumber();
        laterThanNow();
        periodIsNotLookedAtForOnce();
        atTheEndOfTime();
        once();
        every();
        after();
        afterRunsByRequest();
        Check.end();
    }

    private static void wrongNumbers() {
        WheelScheduler x = new WheelScheduler(1);
        x.advance(10);
        String before = Check.picture(x);
        int[][] wrong = {{-1, 11, 1}, {3, 11, 1}, {4, 11, 1}, {Integer.MAX_VALUE, 11, 1}, {Integer.MIN_VALUE, 11, 1},
            {0, 10, 1}, {0, 9, 1}, {0, -1, 1}, {0, Integer.MIN_VALUE, 1}, {0, 1000001, 1}, {0, Integer.MAX_VALUE, 1},
            {1, 10, 1}, {2, 10, 1}, {1, 1000001, 1}, {2, 1000001, 1},
            {1, 11, 0}, {1, 11, 2001}, {1, 11, -1}, {1, 11, Integer.MIN_VALUE}, {1, 11, Integer.MAX_VALUE},
            {2, 11, 0}, {2, 11, 2001}, {2, 11, -1}, {2, 11, Integer.MIN_VALUE}, {2, 11, Integer.MAX_VALUE}};
        for (int[] a : wrong) {
            Check.same("job " + java.util.Arrays.toString(a), x.job(a[0], a[1], a[2]), REFUSED);
        }
        Check.unchanged("refused jobs", before, x);
    }

    private static void edges() {
        WheelScheduler x = new WheelScheduler(1);
        int[][] right = {{0, 1, 0}, {0, 1000000, -7}, {0, 5, Integer.MAX_VALUE}, {1, 1, 1}, {1, 1000000, 2000},
            {2, 1, 1}, {2, 1000000, 2000}};
        for (int i = 0; i < right.length; i++) {
            int[] a = right[i];
            Check.same("job " + java.util.Arrays.toString(a), x.job(a[0], a[1], a[2]), i);
            Check.same("due " + java.util.Arrays.toString(a), x.due(i), a[1]);
            Check.same("kind " + java.util.Arrays.toString(a), x.about(i, 5), a[0]);
        }
    }

    private static void numbers() {
        WheelScheduler x = new WheelScheduler(1);
        for (int job = 0; job < 12; job++) {
            Check.same("new number", x.job(job % 3, 5, 5), job);
        }
        String before = Check.picture(x);
        Check.same("13th job", x.job(0, 5, 5), REFUSED);
        Check.unchanged("13th job", before, x);
        x.give(7);
        x.give(3);
        x.give(11);
        Check.same("least free", x.job(0, 5, 5), 3);
        Check.same("next free", x.job(1, 5, 5), 7);
        Check.same("last free", x.job(2, 5, 5), 11);
        Check.same("none free", x.job(2, 5, 5), REFUSED);
    }

    private static void refusedTakesNoNumber() {
        WheelScheduler x = new WheelScheduler(1);
        for (int job = 0; job < 12; job++) {
            Check.same("kind 3", x.job(3, 5, 5), REFUSED);
            Check.same("at 0", x.job(0, 0, 5), REFUSED);
            Check.same("period 0", x.job(1, 5, 0), REFUSED);
            Check.same("pause 2001", x.job(2, 5, 2001), REFUSED);
            Check.same("no job yet", x.about(job, 5), REFUSED);
            Check.same("the least number", x.job(job % 3, 5, 5), job);
        }
        for (int job = 11; job >= 0; job--) {
            x.give(job);
            Check.same("the only number that is free", x.job(0, 5, 0), job);
        }
        x.give(0);
        x.give(11);
        Check.same("the least of two", x.cron(1, 1, 1, 1, 1), 0);
        Check.same("the other", x.job(0, 5, 0), 11);
        Check.same("no more", x.job(0, 5, 0), REFUSED);
    }

    private static void laterThanNow() {
        WheelScheduler x = new WheelScheduler(1);
        x.advance(100);
        for (int kind = 0; kind <= 2; kind++) {
            Check.same("before now", x.job(kind, 99, 1), REFUSED);
            Check.same("now", x.job(kind, 100, 1), REFUSED);
            Check.same("just after now", x.job(kind, 101, 1), kind);
            Check.same("due", x.due(kind), 101);
        }
        x.advance(1);
        Check.same("first due at the next tick", x.state(2) + x.state(3), 3);
    }

    private static void periodIsNotLookedAtForOnce() {
        int[] periods = {0, -1, 2001, Integer.MIN_VALUE, Integer.MAX_VALUE};
        for (int period : periods) {
            WheelScheduler x = new WheelScheduler(1);
            Check.same("once, period " + period, x.job(0, 5, period), 0);
            x.advance(5);
            Check.same("once, period " + period + ", due", x.run(0, 2), 5);
            Check.same("once, period " + period + ", not again", x.due(0), NEVER);
            x.advance(10000);
            Check.same("once, period " + period + ", one run", x.about(0, 0), 1);
            Check.same("every, period " + period, x.job(1, 20000, period), REFUSED);
            Check.same("after, pause " + period, x.job(2, 20000, period), REFUSED);
        }
    }

    private static void atTheEndOfTime() {
        WheelScheduler x = new WheelScheduler(1);
        Check.advanceTo(x, 999999);
        for (int kind = 0; kind <= 2; kind++) {
            Check.same("at 999999, now", x.job(kind, 999999, 2000), REFUSED);
            Check.same("at 999999, beyond", x.job(kind, 1000001, 2000), REFUSED);
            Check.same("at 999999, the last time", x.job(kind, 1000000, 2000), kind);
        }
        x.advance(1);
        for (int kind = 0; kind <= 2; kind++) {
            Check.same("at 1000000, now", x.job(kind, 1000000, 2000), REFUSED);
            Check.same("at 1000000, beyond", x.job(kind, 1000001, 2000), REFUSED);
        }
    }

    private static void once() {
        WheelScheduler x = new WheelScheduler(1);
        x.job(0, 4, 2);
        x.advance(3);
        Check.same("once, before", x.due(0), 4);
        Check.same("once, no run before", x.about(0, 0), 0);
        x.advance(1);
        Check.same("once, at", x.due(0), NEVER);
        Check.same("once, run at", x.about(0, 0), 1);
        x.advance(30000);
        Check.same("once, no run after", x.about(0, 0), 1);
        Check.same("once, still there", x.about(0, 5), 0);
    }

    private static void every() {
        WheelScheduler x = new WheelScheduler(1);
        x.job(1, 7, 5);
        for (int t = 1; t <= 40; t++) {
            x.advance(1);
            int dues = t < 7 ? 0 : (t - 7) / 5 + 1;
            Check.same("every, runs at " + t, x.about(0, 0), dues);
            Check.same("every, due at " + t, x.due(0), 7 + 5 * dues);
        }
    }

    private static void after() {
        WheelScheduler x = new WheelScheduler(1);
        x.manner(4, 0, 0, 0);
        x.job(2, 3, 6);
        Check.same("after, first", x.due(0), 3);
        x.advance(3);
        Check.same("after, runs", x.due(0), NEVER);
        x.advance(3);
        Check.same("after, still runs", x.due(0), NEVER);
        x.advance(1);
        Check.same("after, ended at 7", x.due(0), 13);
        x.stop();
        x.advance(6);
        Check.same("after, missed at 13", x.due(0), 19);
        Check.same("after, missed", x.about(0, 2), 1);
        x.go();
        x.advance(5);
        x.request(0);
        x.advance(1);
        Check.same("after, lost at 19", x.due(0), 25);
        Check.same("after, lost", x.about(0, 1), 1);
        x.advance(3);
        Check.same("after, an end at 22 while known", x.due(0), 25);
        Check.same("after, no run", x.about(0, 4), 0);
    }

    private static void afterRunsByRequest() {
        WheelScheduler x = new WheelScheduler(1);
        x.manner(5, 0, 1, 0);
        x.job(2, 3, 10);
        x.request(0);
        x.advance(3);
        Check.same("requested while it runs", x.due(0), NEVER);
        Check.same("waits", x.about(0, 3), 1);
        x.advance(2);
        Check.same("the end of the other run at 5", x.due(0), 15);
        x.advance(5);
        Check.same("the end of its own run at 10", x.due(0), 15);
        x.request(0);
        x.advance(5);
        Check.same("an end at the time when it is due", x.due(0), NEVER);
        Check.same("due at 15", x.run(0, 2), 15);
        x.advance(5);
        Check.same("the end at 20", x.due(0), 30);
    }
}
