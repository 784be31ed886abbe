/** Promise 14: nextEnd. */
public final class Promise14Test {
    private static final int NEVER = WheelScheduler.NEVER;

    public static void main(String[] args) {
        noRun();
        severalRuns();
        stoppedAndGivenUp();
        beyondTheLastTime();
        aboutTheLastTime();
        Check.end();
    }

    private static void noRun() {
        WheelScheduler x = new WheelScheduler(3);
        Check.same("no job", x.nextEnd(), NEVER);
        x.manner(2, 0, 1, 0);
        x.job(1, 1, 1);
        Check.same("not due yet", x.nextEnd(), NEVER);
        x.advance(2);
        Check.same("a run", x.nextEnd(), 3);
        x.stop();
        x.advance(1);
        Check.same("a request waits while it is stopped", x.state(2), 1);
        Check.same("but there is no run", x.nextEnd(), NEVER);
        x.go();
        Check.same("it runs", x.nextEnd(), 5);
        x.give(0);
        x.advance(1);
        Check.same("given up, it runs on", x.nextEnd(), 5);
        x.advance(1);
        Check.same("no run", x.nextEnd(), NEVER);
    }

    private static void severalRuns() {
        WheelScheduler x = new WheelScheduler(3);
        int[] durations = {7, 4, 9};
        for (int duration : durations) {
            x.manner(duration, 0, 0, 0);
            x.job(0, 100, 0);
        }
        Check.same("none", x.nextEnd(), NEVER);
        x.advance(10);
        int[] earliest = {17, 14, 14};
        for (int job = 0; job < 3; job++) {
            x.request(job);
            Check.same("with job " + job, x.nextEnd(), earliest[job]);
        }
        x.request(1);
        x.advance(3);
        Check.same("at 13", x.nextEnd(), 14);
        x.advance(1);
        Check.same("at 14", x.nextEnd(), 17);
        x.advance(3);
        Check.same("at 17", x.nextEnd(), 18);
        x.advance(1);
        Check.same("at 18", x.nextEnd(), 19);
        x.advance(1);
        Check.same("at 19", x.nextEnd(), NEVER);
    }

    private static void stoppedAndGivenUp() {
        WheelScheduler x = new WheelScheduler(1);
        x.manner(200, 0, 0, 0);
        x.job(0, 1, 0);
        x.advance(1);
        x.stop();
        Check.same("stopped", x.nextEnd(), 201);
        x.give(0);
        Check.same("given up", x.nextEnd(), 201);
        x.advance(199);
        Check.same("at 200", x.nextEnd(), 201);
        x.advance(1);
        Check.same("at 201", x.nextEnd(), NEVER);
    }

    private static void beyondTheLastTime() {
        WheelScheduler x = new WheelScheduler(1);
        x.manner(200, 0, 0, 0);
        x.job(0, 1000000, 0);
        for (int i = 0; i < 34; i++) {
            x.advance(30000);
        }
        Check.same("at the last time", x.nextEnd(), 1000200);
    }

    /** No latest time is named: an end that no tick reaches is told like any other. */
    private static void aboutTheLastTime() {
        WheelScheduler x = new WheelScheduler(3);
        for (int duration = 1; duration <= 3; duration++) {
            x.manner(duration, 0, 0, 0);
            x.job(0, 999999, 0);
        }
        Check.advanceTo(x, 999999);
        Check.same("an end at the last time", x.nextEnd(), 1000000);
        x.advance(1);
        Check.same("an end a tick after it", x.nextEnd(), 1000001);
        x.advance(1);
        Check.same("which does not come", x.nextEnd(), 1000001);
        Check.same("so two runs go on", x.state(1), 1);
        Check.same("a request at the last time", x.request(0), 1);
        Check.same("ends no earlier", x.nextEnd(), 1000001);
    }
}
