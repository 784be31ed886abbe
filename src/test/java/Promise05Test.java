/** Promise 5: give. */
public final class Promise05Test {
    private static final int REFUSED = WheelScheduler.REFUSED, NEVER = WheelScheduler.NEVER;

    public static void main(String[] args) {
        noSuchJob();
        theOthersStay();
        requestsGoAway();
        runGoesOn();
        numberUsedAgain();
        oldRunHasNoEffectOnAfter();
        missesAreForgotten();
        Check.end();
    }

    private static void noSuchJob() {
        WheelScheduler x = new WheelScheduler(1);
        x.job(1, 1, 1);
        x.advance(3);
        String before = Check.picture(x);
        int[] wrong = {-1, 1, 11, 12, Integer.MIN_VALUE, Integer.MAX_VALUE};
        for (int job : wrong) {
            Check.no("give " + job, x.give(job));
        }
        Check.unchanged("give of no job", before, x);
        Check.yes("give 0", x.give(0));
        Check.no("give 0 again", x.give(0));
        Check.same("due", x.due(0), REFUSED);
        Check.same("about", x.about(0, 0), REFUSED);
        Check.same("request", x.request(0), REFUSED);
        x.advance(10);
        Check.same("no more runs", x.state(3), 3);
    }

    private static void theOthersStay() {
        WheelScheduler x = new WheelScheduler(3);
        x.manner(4, 0, 1, 2);
        for (int job = 0; job < 12; job++) {
            x.job(1, 1 + job, 20);
        }
        x.advance(8);
        Check.yes("give 11", x.give(11));
        Check.yes("give 0", x.give(0));
        Check.yes("give 5", x.give(5));
        for (int job = 0; job < 12; job++) {
            boolean gone = job == 0 || job == 5 || job == 11;
            Check.same("due " + job, x.due(job), gone ? REFUSED : job < 8 ? 21 + job : 1 + job);
            Check.same("kind " + job, x.about(job, 5), gone ? REFUSED : 1);
            if (gone) {
                Check.no("give " + job + " again", x.give(job));
            }
        }
    }

    private static void requestsGoAway() {
        WheelScheduler x = new WheelScheduler(1);
        x.manner(10, 0, 1, 0);
        x.job(0, 100, 0);
        x.job(0, 100, 0);
        x.request(0);
        x.request(0);
        x.request(1);
        x.request(1);
        Check.same("waiting", x.state(2), 3);
        x.give(1);
        Check.same("waiting after give", x.state(2), 1);
        x.give(0);
        Check.same("nothing waits", x.state(2), 0);
        x.advance(50);
        Check.same("nothing was started", x.state(3), 1);
    }

    private static void runGoesOn() {
        WheelScheduler x = new WheelScheduler(2);
        x.manner(10, 0, 0, 0);
        x.job(0, 100, 0);
        x.request(0);
        x.give(0);
        Check.same("worker", x.state(1), 1);
        Check.same("its end", x.nextEnd(), 10);
        Check.same("its number", x.run(0, 0), 0);
        x.advance(9);
        Check.same("worker at 9", x.state(1), 1);
        x.advance(1);
        Check.same("worker at 10", x.state(1), 2);
        Check.same("no end", x.nextEnd(), NEVER);
    }

    private static void numberUsedAgain() {
        WheelScheduler x = new WheelScheduler(2);
        x.manner(10, 0, 0, 0);
        x.job(1, 1, 2);
        x.advance(7);
        x.request(0);
        Check.same("lost", x.about(0, 1), 3);
        x.give(0);
        x.manner(2, 0, 0, 0);
        Check.same("the number again", x.job(0, 8, 0), 0);
        int[] fresh = {0, 0, 0, 0, 0, 0};
        for (int what = 0; what < 6; what++) {
            Check.same("fresh " + what, x.about(0, what), fresh[what]);
        }
        x.advance(1);
        Check.same("not lost by the old run", x.about(0, 1), 0);
        Check.same("runs beside the old run", x.about(0, 4), 1);
        Check.same("both work", x.state(1), 0);
        Check.same("the new run ends first", x.nextEnd(), 10);
        Check.same("the new run's due time", x.run(0, 2), 8);
        x.give(0);
        Check.same("the number a third time", x.job(1, 9, 1), 0);
        x.advance(1);
        Check.same("no free worker at 9", x.about(0, 3), 1);
        Check.same("neither run is its own", x.about(0, 4), 0);
        x.advance(1);
        Check.same("started at 10", x.run(0, 1), 10);
        Check.same("due at 9", x.run(0, 2), 9);
        Check.same("the first run goes on", x.nextEnd(), 11);
        x.advance(1);
        Check.same("its own run goes on", x.nextEnd(), 12);
        Check.same("one worker is free at 11", x.state(1), 1);
        Check.same("lost by its own run", x.about(0, 1), 2);
    }

    private static void oldRunHasNoEffectOnAfter() {
        WheelScheduler x = new WheelScheduler(1);
        x.manner(10, 0, 0, 0);
        x.job(2, 1, 5);
        x.advance(1);
        x.give(0);
        x.job(2, 3, 5);
        x.advance(2);
        Check.same("waits for the worker", x.about(0, 3), 1);
        Check.same("not known", x.due(0), NEVER);
        x.advance(8);
        Check.same("the old run's end tells nothing", x.due(0), NEVER);
        Check.same("started then", x.run(0, 1), 11);
        x.advance(10);
        Check.same("its own run's end does", x.due(0), 26);
    }

    private static void missesAreForgotten() {
        WheelScheduler x = new WheelScheduler(1);
        x.manner(1, 0, 0, 2);
        x.job(1, 1, 1);
        x.stop();
        x.advance(5);
        x.give(0);
        x.job(0, 100, 0);
        Check.same("missed of the new job", x.about(0, 2), 0);
        Check.same("go", x.go(), 0);
        Check.same("nothing started", x.state(3), 0);
    }
}
