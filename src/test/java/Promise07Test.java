/** Promise 7: request. */
public final class Promise07Test {
    private static final int REFUSED = WheelScheduler.REFUSED;

    public static void main(String[] args) {
        noSuchJob();
        stopped();
        fullLine();
        roomAgain();
        atTheEndOfTime();
        startedOrWaits();
        overlapIsNotAsked();
        dueNow();
        Check.end();
    }

    private static WheelScheduler oneJob() {
        WheelScheduler x = new WheelScheduler(1);
        x.manner(50, 0, 0, 0);
        x.job(0, 100, 0);
        return x;
    }

    private static void noSuchJob() {
        WheelScheduler x = oneJob();
        String before = Check.picture(x);
        int[] wrong = {-1, 1, 11, 12, Integer.MIN_VALUE, Integer.MAX_VALUE};
        for (int job : wrong) {
            Check.same("request " + job, x.request(job), REFUSED);
        }
        Check.unchanged("request of no job", before, x);
    }

    private static void stopped() {
        WheelScheduler x = oneJob();
        x.stop();
        String before = Check.picture(x);
        Check.same("while stopped", x.request(0), REFUSED);
        Check.unchanged("request while stopped", before, x);
        x.go();
        Check.same("after go", x.request(0), 1);
    }

    private static void fullLine() {
        WheelScheduler x = oneJob();
        Check.same("started", x.request(0), 1);
        for (int i = 0; i < 3; i++) {
            Check.same("waits", x.request(0), 0);
        }
        String before = Check.picture(x);
        Check.same("a fourth one", x.request(0), REFUSED);
        Check.unchanged("a fourth request", before, x);
        Check.same("not lost", x.about(0, 1), 0);
    }

    private static void roomAgain() {
        WheelScheduler x = oneJob();
        for (int i = 0; i < 4; i++) {
            x.advance(1);
            x.request(0);
        }
        Check.same("full at 4", x.request(0), REFUSED);
        x.advance(46);
        Check.same("full at 50", x.request(0), REFUSED);
        x.advance(1);
        Check.same("one was started at 51", x.about(0, 3), 2);
        Check.same("room at 51", x.request(0), 0);
        Check.same("full again", x.request(0), REFUSED);
        x.advance(150);
        int[] dues = {51, 4, 3, 2, 1};
        for (int k = 0; k < dues.length; k++) {
            Check.same("due, " + k + " before the latest", x.run(k, 2), dues[k]);
        }
    }

    private static void atTheEndOfTime() {
        WheelScheduler x = new WheelScheduler(1);
        x.job(0, 1, 0);
        Check.advanceTo(x, 1000000);
        Check.same("a request at the last time", x.request(0), 1);
        Check.same("due then", x.run(0, 2), 1000000);
        Check.same("another one waits", x.request(0), 0);
    }

    private static void startedOrWaits() {
        WheelScheduler x = new WheelScheduler(2);
        x.manner(5, 0, 0, 0);
        x.job(0, 100, 0);
        x.job(0, 100, 0);
        x.manner(5, 9, 0, 0);
        x.job(0, 100, 0);
        Check.same("first", x.request(0), 1);
        Check.same("its job has a run", x.request(0), 0);
        Check.same("a free worker", x.request(1), 1);
        Check.same("no free worker", x.request(2), 0);
        Check.same("waiting", x.state(2), 2);
        x.advance(5);
        Check.same("the highest priority first", x.run(1, 0), 2);
        Check.same("then the other", x.run(0, 0), 0);
        x.advance(5);
        Check.same("free again", x.request(0), 1);
    }

    private static void overlapIsNotAsked() {
        WheelScheduler x = new WheelScheduler(1);
        x.manner(5, 0, 0, 0);
        x.job(0, 2, 0);
        x.request(0);
        Check.same("a run is there", x.request(0), 0);
        Check.same("a run and a request are there", x.request(0), 0);
        Check.same("two wait", x.about(0, 3), 2);
        x.advance(2);
        Check.same("due by itself it is lost", x.about(0, 1), 1);
        Check.same("two wait still", x.about(0, 3), 2);
        x.advance(13);
        Check.same("all are done", x.about(0, 0), 3);
    }

    private static void dueNow() {
        WheelScheduler x = new WheelScheduler(1);
        x.manner(4, 0, 0, 0);
        x.job(1, 50, 50);
        x.advance(7);
        x.request(0);
        x.advance(2);
        x.request(0);
        Check.same("started now", x.run(0, 1), 7);
        Check.same("due now", x.run(0, 2), 7);
        Check.same("the due time stays", x.due(0), 50);
        x.advance(2);
        Check.same("started later", x.run(0, 1), 11);
        Check.same("due at the request", x.run(0, 2), 9);
    }
}
