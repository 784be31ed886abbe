/** Promise 15: a refused call changes nothing, in whatever state the object is; due tells REFUSED before NEVER. */
public final class Promise15Test {
    private static final int REFUSED = WheelScheduler.REFUSED, NEVER = WheelScheduler.NEVER;

    public static void main(String[] args) {
        refusedCalls("new", new WheelScheduler(1));
        refusedCalls("busy", busy());
        fullLine();
        stopped();
        givenUp();
        atTheEnd();
        mannerStays();
        dueTellsRefusedFirst();
        Check.end();
    }

    private static WheelScheduler busy() {
        WheelScheduler x = new WheelScheduler(2);
        x.manner(20, 4, 1, 2);
        for (int job = 0; job < 12; job++) {
            x.job(1, job + 1, 7);
        }
        x.advance(60);
        return x;
    }

    private static void refusedCalls(String name, WheelScheduler x) {
        String before = Check.picture(x);
        int[] noJob = {-1, 12, Integer.MIN_VALUE, Integer.MAX_VALUE};
        for (int job : noJob) {
            Check.no("give", x.give(job));
            Check.same("request", x.request(job), REFUSED);
            Check.same("due", x.due(job), REFUSED);
            Check.same("about", x.about(job, 0), REFUSED);
        }
        int[] wrongTicks = {-1, 30001, Integer.MIN_VALUE, Integer.MAX_VALUE};
        for (int n : wrongTicks) {
            Check.same("advance", x.advance(n), REFUSED);
        }
        Check.no("manner", x.manner(0, 9, 0, 0));
        Check.no("manner", x.manner(1, 9, 0, 3));
        Check.same("job, kind", x.job(3, 5000, 1), REFUSED);
        Check.same("job, at", x.job(0, x.state(0), 1), REFUSED);
        Check.same("job, period", x.job(2, 1000000, 0), REFUSED);
        Check.same("cron", x.cron(1, 1, 1, 1, 128), REFUSED);
        Check.same("about", x.about(0, 6), REFUSED);
        Check.same("run", x.run(16, 0), REFUSED);
        Check.same("run", x.run(0, 3), REFUSED);
        Check.same("state", x.state(10), REFUSED);
        if (x.state(4) == 0) {
            Check.same("go", x.go(), REFUSED);
        } else {
            Check.no("stop", x.stop());
            Check.same("request while stopped", x.request(0), REFUSED);
        }
        Check.unchanged("refused calls, " + name, before, x);
    }

    private static void fullLine() {
        WheelScheduler x = busy();
        String before = Check.picture(x);
        Check.same("a full line", x.about(11, 3), 3);
        Check.same("13th job", x.job(0, 500, 0), REFUSED);
        Check.same("13th job by cron", x.cron(1, 1, 1, 1, 1), REFUSED);
        Check.same("a fourth request", x.request(11), REFUSED);
        Check.unchanged("calls beyond the limits", before, x);
    }

    private static void stopped() {
        WheelScheduler x = busy();
        x.stop();
        x.advance(30);
        refusedCalls("stopped", x);
    }

    private static void givenUp() {
        WheelScheduler x = busy();
        x.give(x.run(0, 0));
        x.stop();
        x.advance(5);
        refusedCalls("with a job given up", x);
    }

    private static void atTheEnd() {
        WheelScheduler x = new WheelScheduler(1);
        x.manner(7, 0, 1, 0);
        x.job(1, 999990, 1);
        for (int i = 0; i < 34; i++) {
            x.advance(30000);
        }
        refusedCalls("at the end of time", x);
    }

    private static void mannerStays() {
        WheelScheduler x = new WheelScheduler(1);
        x.manner(33, 0, 0, 0);
        refusedCalls("before a job is made", x);
        x.job(0, 10, 0);
        x.request(0);
        Check.same("the manner stays", x.nextEnd(), 33);
    }

    private static void dueTellsRefusedFirst() {
        WheelScheduler x = new WheelScheduler(1);
        x.job(0, 1, 0);
        x.advance(1);
        Check.same("a job that is not due again", x.due(0), NEVER);
        x.give(0);
        Check.same("the same job, given up", x.due(0), REFUSED);
        Check.same("no job", x.due(-1), REFUSED);
    }
}
