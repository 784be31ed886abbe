/** The part 'Terms', its workers, requests and ticks: the limits, the order of things, and jobs that were given up. */
public final class TermsTickTest {
    private static final int REFUSED = WheelScheduler.REFUSED, NEVER = WheelScheduler.NEVER;

    public static void main(String[] args) {
        asManyRunsAsWorkers();
        oneRunOfAJobAtATime();
        threeRequestsWaitAtMost();
        endsComeBeforeDueJobs();
        endsComeBeforeStarts();
        dueJobsComeBeforeStarts();
        allDueJobsComeBeforeTheFirstStart();
        lostOnlyByItsOwn();
        missedAndNotLost();
        nothingStartsWhileStopped();
        priorityBeforeDueTime();
        dueTimeBeforeNumber();
        numberLast();
        numberAndNotAge();
        aJobThatRunsIsPassedOver();
        eachRequestHasItsOwnDueTime();
        severalStartInOneTick();
        givenUpWithRequests();
        givenUpWithARun();
        givenUpWithBothWhileStopped();
        theNumberOfAGivenUpJob();
        Check.end();
    }

    /** So many jobs of a duration, a priority and an overlap, that are due late. */
    private static WheelScheduler late(int workers, int jobs, int duration, int overlap) {
        WheelScheduler x = new WheelScheduler(workers);
        x.manner(duration, 0, overlap, 0);
        for (int job = 0; job < jobs; job++) {
            x.job(0, 1000000, 0);
        }
        return x;
    }

    private static void runs(String name, WheelScheduler x, int... jobs) {
        for (int i = 0; i < jobs.length; i++) {
            Check.same(name + ", start " + i, x.run(jobs.length - 1 - i, 0), jobs[i]);
        }
        Check.same(name + ", starts in all", x.state(3), jobs.length);
    }

    private static void asManyRunsAsWorkers() {
        for (int workers = 1; workers <= 3; workers++) {
            WheelScheduler x = new WheelScheduler(workers);
            x.manner(10, 0, 0, 0);
            for (int job = 0; job < 5; job++) {
                x.job(0, 1, 0);
            }
            int[] started = {workers, 2 * workers, 3 * workers};
            for (int i = 0; i < 3; i++) {
                x.advance(i == 0 ? 1 : 10);
                int all = started[i] > 5 ? 5 : started[i];
                Check.same(workers + " workers, started at " + x.state(0), x.state(3), all);
                Check.same(workers + " workers, waiting at " + x.state(0), x.state(2), 5 - all);
            }
        }
    }

    private static void oneRunOfAJobAtATime() {
        WheelScheduler x = late(3, 1, 10, 1);
        Check.same("the first", x.request(0), 1);
        Check.same("the second, with two workers free", x.request(0), 0);
        Check.same("two are free", x.state(1), 2);
        x.advance(9);
        Check.same("it waits at 9", x.about(0, 3), 1);
        x.advance(1);
        Check.same("it starts at 10", x.about(0, 3), 0);
        Check.same("two are free again", x.state(1), 2);
        x = new WheelScheduler(3);
        x.manner(10, 0, 1, 2);
        x.job(1, 1, 1);
        x.advance(2);
        Check.same("one run by two due times", x.state(1), 2);
        x.stop();
        x.advance(20);
        x.go();
        Check.same("one run after go", x.state(1), 2);
        Check.same("the others wait", x.about(0, 3), 2);
    }

    private static void threeRequestsWaitAtMost() {
        WheelScheduler x = new WheelScheduler(1);
        x.manner(200, 0, 1, 2);
        x.job(1, 1, 1);
        int[] waiting = {0, 1, 2, 3, 3, 3};
        int[] lost = {0, 0, 0, 0, 1, 2};
        for (int i = 0; i < waiting.length; i++) {
            x.advance(1);
            Check.same("waiting at " + (i + 1), x.about(0, 3), waiting[i]);
            Check.same("lost at " + (i + 1), x.about(0, 1), lost[i]);
        }
        Check.same("a request more", x.request(0), REFUSED);
        x.stop();
        x.advance(5);
        Check.same("go adds none", x.go(), 0);
        Check.same("three still", x.about(0, 3), 3);
        x = late(1, 2, 200, 1);
        for (int i = 0; i < 4; i++) {
            x.request(0);
        }
        Check.same("three of another job may wait", x.request(1), 0);
        Check.same("a second of it", x.request(1), 0);
        Check.same("a third of it", x.request(1), 0);
        Check.same("a fourth of it", x.request(1), REFUSED);
        Check.same("six wait", x.state(2), 6);
    }

    private static void endsComeBeforeDueJobs() {
        WheelScheduler x = new WheelScheduler(2);
        x.manner(4, 0, 0, 0);
        x.job(1, 3, 4);
        x.advance(3 + 4 * 5);
        Check.same("each end makes room for what is due then", x.about(0, 0), 6);
        Check.same("nothing is lost", x.about(0, 1), 0);
    }

    private static void endsComeBeforeStarts() {
        WheelScheduler x = late(1, 2, 4, 0);
        x.request(0);
        x.request(1);
        x.advance(3);
        Check.same("the worker is busy at 3", x.about(1, 3), 1);
        x.advance(1);
        Check.same("and taken again at 4", x.run(0, 1), 4);
        Check.same("by the other job", x.run(0, 0), 1);
        Check.same("no worker is free", x.state(1), 0);
    }

    private static void dueJobsComeBeforeStarts() {
        WheelScheduler x = new WheelScheduler(1);
        x.manner(10, 0, 1, 0);
        x.job(0, 10, 0);
        for (int i = 0; i < 4; i++) {
            x.request(0);
        }
        x.advance(10);
        Check.same("the line was full when it was due at 10", x.about(0, 1), 1);
        Check.same("then the first of the line was started", x.about(0, 3), 2);
        x = new WheelScheduler(1);
        x.manner(10, 0, 0, 0);
        x.job(0, 10, 0);
        x.request(0);
        x.request(0);
        x.advance(10);
        Check.same("overlap 0: one waited when it was due at 10", x.about(0, 1), 1);
        Check.same("then that was started", x.about(0, 3), 0);
        Check.same("which was due at 0", x.run(0, 2), 0);
    }

    private static void allDueJobsComeBeforeTheFirstStart() {
        WheelScheduler x = new WheelScheduler(1);
        for (int job = 0; job < 12; job++) {
            x.manner(1, job == 11 ? 1 : 0, 0, 0);
            x.job(0, 5, 0);
        }
        x.advance(5);
        runs("the last number has the highest priority", x, 11);
        Check.same("eleven wait", x.state(2), 11);
    }

    private static void lostOnlyByItsOwn() {
        WheelScheduler x = new WheelScheduler(1);
        x.manner(100, 0, 0, 0);
        x.job(0, 1000, 0);
        x.job(0, 5, 0);
        for (int i = 0; i < 4; i++) {
            x.request(0);
        }
        x.advance(5);
        Check.same("another job's run and line take nothing away", x.about(1, 1), 0);
        Check.same("it waits", x.about(1, 3), 1);
    }

    private static void missedAndNotLost() {
        for (int overlap = 0; overlap <= 1; overlap++) {
            WheelScheduler x = new WheelScheduler(1);
            x.manner(100, 0, overlap, 0);
            x.job(1, 5, 5);
            for (int i = 0; i < 4; i++) {
                x.request(0);
            }
            x.stop();
            x.advance(20);
            Check.same("stopped, a run and a full line: missed", x.about(0, 2), 4);
            Check.same("stopped, a run and a full line: lost", x.about(0, 1), 0);
            x.go();
            x.advance(5);
            Check.same("not stopped: missed", x.about(0, 2), 4);
            Check.same("not stopped: lost", x.about(0, 1), 1);
        }
    }

    private static void nothingStartsWhileStopped() {
        WheelScheduler x = late(2, 3, 5, 0);
        for (int job = 0; job < 3; job++) {
            x.request(job);
        }
        x.stop();
        x.advance(4);
        Check.same("runs go on at 4", x.state(1), 0);
        x.advance(1);
        Check.same("and end at 5", x.state(1), 2);
        x.advance(100);
        Check.same("the request waits", x.state(2), 1);
        Check.same("nothing was started", x.state(3), 2);
        Check.same("no end", x.nextEnd(), NEVER);
        x.go();
        Check.same("it starts then", x.run(0, 1), 105);
        Check.same("and was due at 0", x.run(0, 2), 0);
    }

    private static void priorityBeforeDueTime() {
        WheelScheduler x = new WheelScheduler(1);
        int[] priorities = {0, 3, 4, 5};
        int[] times = {1, 2, 3, 4};
        for (int job = 0; job < 4; job++) {
            x.manner(10, priorities[job], 0, 0);
            x.job(0, times[job], 0);
        }
        x.advance(31);
        runs("the later due, the higher", x, 0, 3, 2, 1);
    }

    private static void dueTimeBeforeNumber() {
        WheelScheduler x = new WheelScheduler(1);
        x.manner(10, 4, 0, 0);
        int[] times = {5, 4, 3, 2, 1};
        for (int at : times) {
            x.job(0, at, 0);
        }
        x.advance(41);
        runs("the higher number, the earlier due", x, 4, 3, 2, 1, 0);
    }

    private static void numberLast() {
        WheelScheduler x = new WheelScheduler(1);
        x.manner(1, 4, 0, 0);
        for (int job = 0; job < 12; job++) {
            x.job(0, 5, 0);
        }
        x.advance(16);
        runs("the same priority and time", x, 0, 1, 2, 3, 4, 5, 6, 7, 8, 9, 10, 11);
        x = late(1, 4, 10, 0);
        x.request(0);
        x.request(3);
        x.request(1);
        x.request(2);
        x.advance(30);
        runs("requested at the same time in another order", x, 0, 1, 2, 3);
    }

    private static void numberAndNotAge() {
        WheelScheduler x = late(1, 3, 10, 0);
        x.request(2);
        x.give(0);
        x.request(1);
        x.job(0, 1000000, 0);
        x.request(0);
        x.advance(10);
        runs("a job made later with a lower number", x, 2, 0);
    }

    private static void aJobThatRunsIsPassedOver() {
        WheelScheduler x = new WheelScheduler(2);
        x.manner(20, 9, 1, 0);
        x.job(0, 1000, 0);
        x.manner(10, 0, 0, 0);
        x.job(0, 1000, 0);
        x.job(0, 1000, 0);
        x.request(0);
        x.request(0);
        Check.same("the lower priority starts", x.request(1), 1);
        x.request(2);
        x.advance(10);
        runs("and so does the next one", x, 0, 1, 2);
        x.advance(10);
        runs("the higher one when its run has ended", x, 0, 1, 2, 0);
    }

    private static void eachRequestHasItsOwnDueTime() {
        WheelScheduler x = late(1, 2, 10, 1);
        x.request(0);
        x.advance(1);
        x.request(0);
        x.advance(1);
        x.request(1);
        x.advance(1);
        x.request(0);
        x.advance(1);
        x.request(1);
        x.advance(46);
        runs("by the time of each", x, 0, 0, 1, 0, 1);
        int[] dues = {0, 1, 2, 3, 4};
        for (int i = 0; i < 5; i++) {
            Check.same("due, start " + i, x.run(4 - i, 2), dues[i]);
            Check.same("time, start " + i, x.run(4 - i, 1), 10 * i);
        }
    }

    private static void severalStartInOneTick() {
        WheelScheduler x = new WheelScheduler(3);
        x.manner(10, 0, 0, 0);
        for (int job = 0; job < 6; job++) {
            x.job(0, 5, 0);
        }
        x.advance(5);
        runs("three at 5", x, 0, 1, 2);
        Check.same("the first of them at 5", x.run(2, 1), 5);
        x.advance(10);
        runs("three more at 15", x, 0, 1, 2, 3, 4, 5);
        Check.same("the first of those at 15", x.run(2, 1), 15);
    }

    private static void givenUpWithRequests() {
        WheelScheduler x = late(1, 3, 10, 1);
        x.request(0);
        for (int i = 0; i < 3; i++) {
            x.request(1);
        }
        x.request(2);
        Check.same("four wait", x.state(2), 4);
        x.give(1);
        Check.same("one waits", x.state(2), 1);
        x.advance(10);
        runs("the other job's is left", x, 0, 2);
        x = new WheelScheduler(1);
        x.manner(1, 0, 1, 0);
        x.job(1, 1, 1);
        x.job(1, 1, 1);
        x.advance(2);
        x.give(0);
        x.advance(30);
        Check.same("it is not due any more", x.run(0, 0), 1);
        Check.same("nor any time before", x.run(15, 0), 1);
    }

    private static void givenUpWithARun() {
        WheelScheduler x = late(1, 2, 10, 0);
        x.request(0);
        x.request(1);
        x.advance(3);
        x.give(0);
        Check.same("the worker is not free", x.state(1), 0);
        Check.same("its end is told", x.nextEnd(), 10);
        x.advance(6);
        Check.same("the other job waits at 9", x.about(1, 3), 1);
        x.advance(1);
        Check.same("and starts at 10", x.about(1, 4), 1);
        Check.same("the run is still told", x.run(1, 0), 0);
    }

    private static void givenUpWithBothWhileStopped() {
        WheelScheduler x = new WheelScheduler(1);
        x.manner(10, 0, 1, 2);
        x.job(1, 1, 1);
        x.advance(3);
        x.stop();
        x.advance(3);
        Check.same("missed", x.about(0, 2), 3);
        x.give(0);
        Check.same("nothing waits", x.state(2), 0);
        x.advance(4);
        Check.same("its run goes on at 10", x.state(1), 0);
        x.advance(1);
        Check.same("it ended at 11", x.state(1), 1);
        Check.same("nothing to make up for", x.go(), 0);
        Check.same("nothing more was started", x.state(3), 1);
    }

    private static void theNumberOfAGivenUpJob() {
        WheelScheduler x = new WheelScheduler(2);
        x.manner(10, 0, 0, 2);
        x.job(2, 1, 5);
        x.advance(1);
        x.give(0);
        x.manner(20, 0, 0, 2);
        Check.same("the new job", x.job(2, 3, 7), 0);
        Check.same("the old run is not its own", x.about(0, 4), 0);
        x.advance(2);
        Check.same("it is not lost by the old run", x.about(0, 1), 0);
        Check.same("it runs beside the old run", x.state(1), 0);
        x.advance(8);
        Check.same("the old run ended at 11", x.state(1), 1);
        Check.same("its own goes on", x.about(0, 4), 1);
        Check.same("the old end tells nothing", x.due(0), NEVER);
        x.advance(12);
        Check.same("its own end at 23 does", x.due(0), 30);
        Check.same("one run was started of it", x.about(0, 0), 1);
    }
}
