/** The part 'Terms', its jobs: their numbers, the ends of each range as they show, and when each kind is due. */
public final class TermsJobsTest {
    private static final int REFUSED = WheelScheduler.REFUSED, NEVER = WheelScheduler.NEVER;

    public static void main(String[] args) {
        numbers();
        shortestAndLongestDuration();
        lowestAndHighestPriority();
        overlapZeroAndOne();
        misfireZeroOneAndTwo();
        onceIsDueOnce();
        shortestAndLongestPeriod();
        shortestAndLongestPause();
        afterIsNotKnownTillARunEnds();
        afterLostByItsRun();
        afterLostByItsRequest();
        afterLostByAFullLine();
        afterMissed();
        endBeforeTheFirstTimeChangesNothing();
        endAfterALossChangesNothing();
        endAfterAMissChangesNothing();
        endAfterAnotherEndChangesNothing();
        endWhenItIsDueChangesNothing();
        anyRunThatEndsTells();
        theEndOfARunByGoTells();
        endWhileStoppedTells();
        Check.end();
    }

    private static WheelScheduler oneJob(int duration, int overlap, int kind, int at, int period) {
        WheelScheduler x = new WheelScheduler(1);
        x.manner(duration, 0, overlap, 0);
        Check.same("the only job", x.job(kind, at, period), 0);
        return x;
    }

    private static void numbers() {
        WheelScheduler x = new WheelScheduler(1);
        for (int job = 0; job < 12; job++) {
            Check.same("the next number", x.job(0, 100 + job, 0), job);
        }
        for (int job = 0; job < 12; job++) {
            Check.same("due " + job, x.due(job), 100 + job);
            Check.same("kind " + job, x.about(job, 5), 0);
        }
        int[] none = {-1, 12};
        for (int job : none) {
            Check.same("due " + job, x.due(job), REFUSED);
            Check.same("about " + job, x.about(job, 5), REFUSED);
            Check.same("request " + job, x.request(job), REFUSED);
            Check.no("give " + job, x.give(job));
        }
        Check.same("request 11", x.request(11), 1);
        Check.yes("give 11", x.give(11));
        Check.yes("give 0", x.give(0));
        Check.same("0 is free first", x.job(0, 100, 0), 0);
        Check.same("then 11", x.job(0, 100, 0), 11);
    }

    private static void shortestAndLongestDuration() {
        int[] durations = {1, 2, 199, 200};
        for (int duration : durations) {
            WheelScheduler x = oneJob(duration, 0, 0, 1000, 0);
            x.advance(7);
            x.request(0);
            Check.same("the end, duration " + duration, x.nextEnd(), 7 + duration);
            x.advance(duration - 1);
            Check.same("a tick before it", x.about(0, 4), 1);
            x.advance(1);
            Check.same("at it", x.about(0, 4), 0);
        }
    }

    private static void lowestAndHighestPriority() {
        WheelScheduler x = new WheelScheduler(1);
        int[] priorities = {0, 9, 1, 8};
        for (int priority : priorities) {
            x.manner(1, priority, 0, 0);
            x.job(0, 1, 0);
        }
        x.advance(4);
        int[] order = {1, 3, 2, 0};
        for (int i = 0; i < 4; i++) {
            Check.same("priority, start " + i, x.run(3 - i, 0), order[i]);
        }
    }

    private static void overlapZeroAndOne() {
        WheelScheduler x = oneJob(10, 0, 1, 1, 1);
        x.advance(3);
        Check.same("overlap 0, lost", x.about(0, 1), 2);
        Check.same("overlap 0, waiting", x.about(0, 3), 0);
        x = oneJob(10, 1, 1, 1, 1);
        x.advance(3);
        Check.same("overlap 1, lost", x.about(0, 1), 0);
        Check.same("overlap 1, waiting", x.about(0, 3), 2);
    }

    private static void misfireZeroOneAndTwo() {
        int[] requests = {0, 1, 2};
        for (int misfire = 0; misfire <= 2; misfire++) {
            WheelScheduler x = new WheelScheduler(1);
            x.manner(1, 0, 0, misfire);
            x.job(1, 1, 1);
            x.stop();
            x.advance(2);
            Check.same("misfire " + misfire, x.go(), requests[misfire]);
        }
    }

    private static void onceIsDueOnce() {
        WheelScheduler x = oneJob(1, 0, 0, 50, 10);
        x.advance(49);
        Check.same("once, before", x.about(0, 0), 0);
        x.advance(1);
        Check.same("once, at", x.run(0, 2), 50);
        Check.same("once, after", x.due(0), NEVER);
        x.advance(4000);
        Check.same("once, runs in all", x.about(0, 0), 1);
        x = oneJob(1, 0, 0, 50, 10);
        x.stop();
        x.advance(4000);
        Check.same("once, missed once", x.about(0, 2), 1);
        Check.same("once, not due again after a miss", x.due(0), NEVER);
        x = oneJob(100, 0, 0, 50, 10);
        x.request(0);
        x.advance(4000);
        Check.same("once, lost once", x.about(0, 1), 1);
        Check.same("once, not due again after a loss", x.due(0), NEVER);
    }

    private static void shortestAndLongestPeriod() {
        int[] periods = {1, 2, 1999, 2000};
        for (int period : periods) {
            WheelScheduler x = oneJob(1, 0, 1, 5, period);
            Check.same("first, period " + period, x.due(0), 5);
            x.advance(5);
            for (int i = 1; i <= 3; i++) {
                Check.same("next, period " + period, x.due(0), 5 + i * period);
                x.advance(period);
                Check.same("runs, period " + period, x.about(0, 0), i + 1);
                Check.same("due, period " + period, x.run(0, 2), 5 + i * period);
            }
        }
        WheelScheduler x = oneJob(200, 0, 1, 5, 7);
        x.advance(6);
        Check.same("a period is counted from the due time, not from an end", x.due(0), 12);
        x.advance(7);
        Check.same("also when it was lost", x.due(0), 19);
    }

    private static void shortestAndLongestPause() {
        int[] pauses = {1, 2, 1999, 2000};
        for (int pause : pauses) {
            WheelScheduler x = oneJob(3, 0, 2, 5, pause);
            Check.same("first, pause " + pause, x.due(0), 5);
            int end = 8;
            for (int i = 1; i <= 3; i++) {
                Check.advanceTo(x, end - 1);
                Check.same("not known, pause " + pause, x.due(0), NEVER);
                x.advance(1);
                Check.same("known, pause " + pause, x.due(0), end + pause);
                Check.advanceTo(x, end + pause);
                Check.same("due, pause " + pause, x.run(0, 2), end + pause);
                Check.same("runs, pause " + pause, x.about(0, 0), i + 1);
                end += pause + 3;
            }
        }
    }

    private static void afterIsNotKnownTillARunEnds() {
        WheelScheduler x = new WheelScheduler(1);
        x.manner(20, 0, 0, 0);
        x.job(0, 1000, 0);
        x.job(2, 5, 3);
        x.request(0);
        x.advance(5);
        Check.same("it waits", x.about(1, 3), 1);
        Check.same("not known while it waits", x.due(1), NEVER);
        x.advance(15);
        Check.same("it runs", x.about(1, 4), 1);
        Check.same("another job's end tells nothing", x.due(1), NEVER);
        x.advance(19);
        Check.same("not known while it runs", x.due(1), NEVER);
        Check.same("not lost meanwhile", x.about(1, 1), 0);
        x.advance(1);
        Check.same("a pause after its end", x.due(1), 43);
    }

    private static void afterLostByItsRun() {
        int[] pauses = {1, 6, 2000};
        for (int pause : pauses) {
            WheelScheduler x = oneJob(200, 0, 2, 5, pause);
            x.request(0);
            x.advance(5);
            Check.same("lost by its run", x.about(0, 1), 1);
            Check.same("a pause later", x.due(0), 5 + pause);
        }
        WheelScheduler x = oneJob(200, 0, 2, 5, 6);
        x.request(0);
        x.advance(11);
        Check.same("lost there too", x.about(0, 1), 2);
        Check.same("a pause later again", x.due(0), 17);
        x.advance(189);
        Check.same("the run has ended", x.about(0, 4), 0);
        Check.same("lost at 5, 11, .. 197", x.about(0, 1), 33);
        Check.same("known still", x.due(0), 203);
        x.advance(3);
        Check.same("not lost any more", x.run(0, 2), 203);
        Check.same("not known then", x.due(0), NEVER);
    }

    private static void afterLostByItsRequest() {
        WheelScheduler x = new WheelScheduler(1);
        x.manner(50, 0, 0, 0);
        x.job(0, 1000, 0);
        x.job(2, 5, 7);
        x.request(0);
        x.request(1);
        x.advance(5);
        Check.same("it has no run", x.about(1, 4), 0);
        Check.same("lost by its request", x.about(1, 1), 1);
        Check.same("one waits", x.about(1, 3), 1);
        Check.same("a pause later", x.due(1), 12);
    }

    private static void afterLostByAFullLine() {
        WheelScheduler x = oneJob(50, 1, 2, 5, 7);
        for (int i = 0; i < 4; i++) {
            x.request(0);
        }
        Check.same("three wait", x.about(0, 3), 3);
        x.advance(5);
        Check.same("lost by the full line", x.about(0, 1), 1);
        Check.same("a pause later", x.due(0), 12);
        x.advance(45);
        Check.same("the first run has ended", x.about(0, 3), 2);
        Check.same("lost at 5, 12, .. 47", x.about(0, 1), 7);
        Check.same("known still", x.due(0), 54);
        x.advance(4);
        Check.same("there is room at 54", x.about(0, 3), 3);
        Check.same("not known then", x.due(0), NEVER);
    }

    private static void afterMissed() {
        int[] pauses = {1, 6, 2000};
        for (int pause : pauses) {
            WheelScheduler x = oneJob(3, 0, 2, 5, pause);
            x.stop();
            x.advance(5);
            Check.same("missed", x.about(0, 2), 1);
            Check.same("a pause later", x.due(0), 5 + pause);
            x.advance(pause);
            Check.same("missed there too", x.about(0, 2), 2);
            Check.same("a pause later again", x.due(0), 5 + 2 * pause);
            x.go();
            Check.same("go tells nothing new", x.due(0), 5 + 2 * pause);
            x.advance(pause);
            Check.same("not missed any more", x.run(0, 2), 5 + 2 * pause);
            Check.same("not known then", x.due(0), NEVER);
        }
    }

    private static void endBeforeTheFirstTimeChangesNothing() {
        WheelScheduler x = oneJob(3, 0, 2, 20, 5);
        x.request(0);
        Check.same("a run starts", x.due(0), 20);
        x.advance(3);
        Check.same("it ended", x.about(0, 4), 0);
        Check.same("known as before", x.due(0), 20);
        x.advance(16);
        Check.same("not due before", x.about(0, 0), 1);
        x.advance(1);
        Check.same("due then", x.run(0, 2), 20);
    }

    private static void endAfterALossChangesNothing() {
        WheelScheduler x = oneJob(10, 0, 2, 8, 5);
        x.request(0);
        x.advance(8);
        Check.same("lost", x.about(0, 1), 1);
        x.advance(2);
        Check.same("the run ended at 10", x.about(0, 4), 0);
        Check.same("13, not 15", x.due(0), 13);
        x.advance(3);
        Check.same("due then", x.run(0, 2), 13);
    }

    private static void endAfterAMissChangesNothing() {
        WheelScheduler x = oneJob(10, 0, 2, 8, 5);
        x.request(0);
        x.stop();
        x.advance(8);
        Check.same("missed", x.about(0, 2), 1);
        x.advance(2);
        Check.same("the run ended at 10", x.about(0, 4), 0);
        Check.same("13, not 15", x.due(0), 13);
    }

    private static void endAfterAnotherEndChangesNothing() {
        WheelScheduler x = oneJob(4, 0, 2, 1, 20);
        x.advance(1);
        x.request(0);
        x.advance(4);
        Check.same("the end at 5", x.due(0), 25);
        x.advance(4);
        Check.same("the run of the request ended at 9", x.about(0, 4), 0);
        Check.same("25, not 29", x.due(0), 25);
    }

    /** The end comes first and finds the time known; then the job is due, and nobody knows again. */
    private static void endWhenItIsDueChangesNothing() {
        WheelScheduler x = oneJob(4, 0, 2, 4, 20);
        x.request(0);
        x.advance(4);
        Check.same("not lost by the run that ended", x.about(0, 1), 0);
        Check.same("due at 4", x.run(0, 2), 4);
        Check.same("not known", x.due(0), NEVER);
        x.advance(4);
        Check.same("known from its own end", x.due(0), 28);
    }

    private static void anyRunThatEndsTells() {
        WheelScheduler x = oneJob(10, 1, 2, 4, 30);
        x.request(0);
        x.advance(4);
        Check.same("it waits behind the run of a request", x.about(0, 3), 1);
        Check.same("not known", x.due(0), NEVER);
        x.advance(6);
        Check.same("that run's end at 10 tells", x.due(0), 40);
        x.advance(10);
        Check.same("its own end at 20 changes nothing", x.due(0), 40);
    }

    private static void theEndOfARunByGoTells() {
        WheelScheduler x = new WheelScheduler(1);
        x.manner(10, 0, 1, 1);
        x.job(2, 4, 5);
        x.stop();
        x.advance(6);
        Check.same("missed at 4, so 9 is known", x.due(0), 9);
        Check.same("go", x.go(), 1);
        x.advance(3);
        Check.same("it waits behind the run of go", x.about(0, 3), 1);
        Check.same("not known", x.due(0), NEVER);
        x.advance(7);
        Check.same("that run's end at 16 tells", x.due(0), 21);
    }

    private static void endWhileStoppedTells() {
        WheelScheduler x = oneJob(10, 0, 2, 4, 30);
        x.advance(5);
        x.stop();
        x.advance(8);
        Check.same("not known at 13", x.due(0), NEVER);
        x.advance(1);
        Check.same("known at 14", x.due(0), 44);
    }
}
