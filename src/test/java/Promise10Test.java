/** Promise 10: due. */
public final class Promise10Test {
    private static final int REFUSED = WheelScheduler.REFUSED, NEVER = WheelScheduler.NEVER;

    public static void main(String[] args) {
        noSuchJob();
        laterThanNow();
        notKnown();
        lastDueTimeOfEachKind();
        beyondTheLastTime();
        afterBeyondTheLastTime();
        Check.end();
    }

    private static void noSuchJob() {
        WheelScheduler x = new WheelScheduler(1);
        x.job(0, 1, 0);
        x.advance(1);
        int[] wrong = {-1, 1, 11, 12, Integer.MIN_VALUE, Integer.MAX_VALUE};
        for (int job : wrong) {
            Check.same("due " + job, x.due(job), REFUSED);
        }
        Check.same("never again", x.due(0), NEVER);
        x.give(0);
        Check.same("given up", x.due(0), REFUSED);
    }

    private static void laterThanNow() {
        WheelScheduler x = new WheelScheduler(1);
        x.manner(2, 0, 0, 0);
        x.job(1, 10, 10);
        x.job(2, 10, 5);
        x.cron(1, 255, 1023, 15, 127);
        x.job(0, 10, 0);
        x.advance(9);
        for (int job = 0; job < 4; job++) {
            Check.same("at 9, job " + job, x.due(job), 10);
        }
        x.advance(1);
        int[] at10 = {20, NEVER, 20, NEVER};
        for (int job = 0; job < 4; job++) {
            Check.same("at 10, job " + job, x.due(job), at10[job]);
        }
        x.advance(4);
        Check.same("at 14 the run of 12 .. 14 has ended", x.due(1), 19);
    }

    private static void notKnown() {
        WheelScheduler x = new WheelScheduler(1);
        x.manner(5, 0, 0, 0);
        x.job(2, 3, 4);
        Check.same("known at first", x.due(0), 3);
        x.advance(2);
        Check.same("known a tick before", x.due(0), 3);
        for (int time = 3; time < 8; time++) {
            x.advance(1);
            Check.same("not known at " + time, x.due(0), NEVER);
        }
        x.advance(1);
        Check.same("known at the end", x.due(0), 12);
        x.advance(3);
        Check.same("known a tick before again", x.due(0), 12);
        x.advance(1);
        Check.same("not known again", x.due(0), NEVER);
        x.give(0);
        Check.same("no such job", x.due(0), REFUSED);
    }

    /** Two jobs of each kind: one is due at 1000000, the other would be a tick later. */
    private static void lastDueTimeOfEachKind() {
        WheelScheduler x = new WheelScheduler(3);
        Check.same("once", x.job(0, 1000000, 0), 0);
        Check.same("once beyond", x.job(0, 1000001, 0), REFUSED);
        x.job(1, 998000, 2000);
        x.job(1, 998001, 2000);
        x.job(2, 998000, 1999);
        x.job(2, 998000, 2000);
        Check.same("month 3, which begins at 1000000", x.cron(1, 1, 1, 1 << 2, 127), 5);
        Check.same("the tick after that", x.cron(2, 1, 1, 1 << 2, 127), 6);
        x.stop();
        Check.advanceTo(x, 998001);
        int[] late = {1000000, 1000000, NEVER, 999999, 1000000, 1000000, NEVER};
        for (int job = 0; job < late.length; job++) {
            Check.same("at 998001, job " + job, x.due(job), late[job]);
        }
        x.advance(1998);
        Check.same("a pause later it would be beyond", x.due(3), NEVER);
        Check.same("made at 999999: month 4", x.cron(1, 1, 1, 1 << 3, 127), 7);
        Check.same("never again", x.due(7), NEVER);
        Check.same("made at 999999: month 3", x.cron(1, 1, 1, 1 << 2, 127), 8);
        Check.same("a tick later", x.due(8), 1000000);
        Check.same("made at 999999: the tick after that", x.cron(2, 1, 1, 1 << 2, 127), 9);
        Check.same("beyond the last time", x.due(9), NEVER);
        x.advance(1);
        for (int job = 0; job < 10; job++) {
            Check.same("at 1000000, job " + job, x.due(job), NEVER);
        }
        Check.same("no job", x.due(10), REFUSED);
    }

    private static void beyondTheLastTime() {
        WheelScheduler x = new WheelScheduler(1);
        x.job(1, 999000, 500);
        x.job(1, 999001, 500);
        x.cron(1, 1, 1, 1, 1);
        x.cron(1, 1, 1, 1, 127);
        x.cron(1, 1, 1023, 15, 127);
        for (int i = 0; i < 33; i++) {
            x.advance(30000);
        }
        Check.same("the first day of the last year", x.due(3), 992000);
        x.advance(9500);
        Check.same("up to 1000000", x.due(0), 1000000);
        Check.same("one before 1000000", x.due(1), 999501);
        x.advance(1);
        Check.same("the next one would be beyond it", x.due(1), NEVER);
        Check.same("no first month any more", x.due(2), NEVER);
        Check.same("no first day of the year any more", x.due(3), NEVER);
        x.advance(498);
        Check.same("a new day at the last time", x.due(4), 1000000);
        Check.same("cron at the last time but one", x.cron(1023, 255, 1023, 15, 127), 5);
        Check.same("due at the last time", x.due(5), 1000000);
        x.advance(1);
        for (int job = 0; job < 6; job++) {
            Check.same("at the end, job " + job, x.due(job), NEVER);
        }
        Check.same("cron at the end", x.cron(1023, 255, 1023, 15, 127), 6);
        Check.same("never due", x.due(6), NEVER);
    }

    private static void afterBeyondTheLastTime() {
        WheelScheduler x = new WheelScheduler(3);
        x.manner(10, 0, 0, 0);
        x.job(2, 998000, 1990);
        x.job(2, 998000, 1991);
        for (int i = 0; i < 34; i++) {
            x.advance(i < 33 ? 30000 : 8010);
        }
        Check.same("a pause that ends at the last time", x.due(0), 1000000);
        Check.same("a pause that ends after it", x.due(1), NEVER);
        x.advance(1980);
        x.request(1);
        x.advance(10);
        Check.same("due at the last time", x.run(0, 2), 1000000);
        Check.same("not known", x.due(0), NEVER);
        Check.same("a run that ends changes nothing", x.due(1), NEVER);
    }
}
