/** Promise 9: go. */
public final class Promise09Test {
    private static final int REFUSED = WheelScheduler.REFUSED;

    public static void main(String[] args) {
        refused();
        misfires();
        asFarAsThreeWait();
        sinceItWasStopped();
        misfireOfEachJob();
        overlapIsNotAsked();
        madeWhileStopped();
        dueNowAndInOrder();
        waitingOnesStart();
        Check.end();
    }

    private static void refused() {
        WheelScheduler x = new WheelScheduler(1);
        x.job(1, 1, 1);
        x.advance(3);
        String before = Check.picture(x);
        Check.same("not stopped", x.go(), REFUSED);
        Check.unchanged("go when not stopped", before, x);
        x.stop();
        Check.same("nothing missed", x.go(), 0);
        Check.same("not stopped any more", x.state(4), 0);
        Check.same("go again", x.go(), REFUSED);
    }

    /** What go answers for one job with a misfire that was missed so many times. */
    private static void misfire(int misfire, int missed, int want) {
        WheelScheduler x = new WheelScheduler(1);
        x.manner(100, 0, 0, misfire);
        x.job(1, 1, 1);
        x.stop();
        x.advance(missed);
        String name = "misfire " + misfire + ", missed " + missed;
        Check.same(name, x.go(), want);
        Check.same(name + " started", x.about(0, 0), want > 0 ? 1 : 0);
        Check.same(name + " waiting", x.about(0, 3), want > 0 ? want - 1 : 0);
        Check.same(name + " in all", x.about(0, 2), missed);
        Check.same(name + " lost", x.about(0, 1), 0);
    }

    private static void misfires() {
        int[][] cases = {{0, 0, 0}, {0, 1, 0}, {0, 5, 0}, {1, 0, 0}, {1, 1, 1}, {1, 2, 1}, {1, 5, 1},
            {2, 0, 0}, {2, 1, 1}, {2, 2, 2}, {2, 3, 3}, {2, 4, 3}, {2, 30000, 3}};
        for (int[] c : cases) {
            misfire(c[0], c[1], c[2]);
        }
    }

    private static void asFarAsThreeWait() {
        for (int misfire = 1; misfire <= 2; misfire++) {
            for (int waiting = 0; waiting <= 3; waiting++) {
                WheelScheduler x = new WheelScheduler(1);
                x.manner(100, 0, 0, misfire);
                x.job(1, 1, 1);
                x.request(0);
                for (int i = 0; i < waiting; i++) {
                    x.request(0);
                }
                x.stop();
                x.advance(10);
                int room = 3 - waiting;
                int want = misfire == 1 && room > 1 ? 1 : room;
                Check.same("misfire " + misfire + ", " + waiting + " wait", x.go(), want);
                Check.same("then wait", x.about(0, 3), waiting + want);
            }
        }
    }

    private static void sinceItWasStopped() {
        WheelScheduler x = new WheelScheduler(1);
        x.manner(1, 0, 1, 2);
        x.job(1, 1, 10);
        x.stop();
        x.advance(15);
        Check.same("two missed", x.go(), 2);
        x.advance(2);
        x.stop();
        Check.same("none missed since", x.go(), 0);
        x.stop();
        x.advance(5);
        Check.same("one missed since", x.go(), 1);
        Check.same("missed in all", x.about(0, 2), 3);
    }

    /** Jobs of all numbers, with each misfire, and missed once, thrice or five times. */
    private static void misfireOfEachJob() {
        WheelScheduler x = new WheelScheduler(1);
        int[] periods = {5, 2, 1};
        for (int job = 0; job < 12; job++) {
            x.manner(200, 0, 0, job % 3);
            x.job(1, 1, periods[job / 3 % 3]);
        }
        x.stop();
        x.advance(5);
        int[] requests = {0, 1, 1, 0, 1, 3, 0, 1, 3, 0, 1, 1};
        Check.same("requests in all", x.go(), 12);
        for (int job = 0; job < 12; job++) {
            Check.same("requests of job " + job, x.about(job, 3) + x.about(job, 0), requests[job]);
        }
        Check.same("the first that has one was started", x.run(0, 0), 1);
        Check.same("the others wait", x.state(2), 11);
    }

    private static void overlapIsNotAsked() {
        WheelScheduler x = new WheelScheduler(1);
        x.manner(100, 0, 0, 2);
        x.job(1, 1, 1);
        x.advance(1);
        x.stop();
        x.advance(2);
        Check.same("overlap 0, a run goes on", x.go(), 2);
        Check.same("both wait", x.about(0, 3), 2);
        Check.same("not lost", x.about(0, 1), 0);
    }

    private static void madeWhileStopped() {
        WheelScheduler x = new WheelScheduler(1);
        x.stop();
        x.advance(5);
        x.manner(1, 0, 0, 2);
        x.job(1, 6, 2);
        x.advance(4);
        Check.same("missed at 6 and 8", x.go(), 2);
        Check.same("due at the go", x.run(0, 2), 9);
    }

    private static void dueNowAndInOrder() {
        WheelScheduler x = new WheelScheduler(2);
        x.manner(5, 0, 0, 1);
        x.job(0, 1, 0);
        x.manner(5, 3, 0, 2);
        x.job(0, 2, 0);
        x.job(1, 1, 2);
        x.stop();
        x.advance(9);
        Check.same("requests of all jobs", x.go(), 5);
        Check.same("started first", x.run(1, 0), 1);
        Check.same("started second", x.run(0, 0), 2);
        Check.same("due now", x.run(0, 2), 9);
        Check.same("started now", x.run(0, 1), 9);
        Check.same("the others wait", x.state(2), 3);
    }

    private static void waitingOnesStart() {
        WheelScheduler x = new WheelScheduler(1);
        x.manner(3, 0, 1, 0);
        x.job(0, 100, 0);
        x.request(0);
        x.request(0);
        x.stop();
        x.advance(10);
        Check.same("free while stopped", x.state(1), 1);
        Check.same("no new requests", x.go(), 0);
        Check.same("the old one is started", x.run(0, 1), 10);
        Check.same("its due time", x.run(0, 2), 0);
    }
}
