/** Promise 2: manner. */
public final class Promise02Test {
    private static final int LEAST = Integer.MIN_VALUE, GREATEST = Integer.MAX_VALUE;

    public static void main(String[] args) {
        atFirst();
        ranges();
        refusedKeepsTheOldOne();
        eachRefusalKeepsAllFour();
        onlyJobsFromNowOn();
        priorityOrders();
        Check.end();
    }

    /** Tells duration, overlap and misfire of the jobs that are made now, each as it shows outside. */
    private static void shows(String name, WheelScheduler x, int duration, int overlap, int requestsAtGo) {
        int now = x.state(0);
        int job = x.job(1, now + 1, 1);
        x.advance(1);
        Check.same(name + " duration", x.nextEnd(), now + 1 + duration);
        x.request(job);
        Check.same(name + " waits", x.about(job, 3), 1);
        if (duration > 1) {
            x.advance(1);
            Check.same(name + " overlap", x.about(job, 3), overlap == 1 ? 2 : 1);
            Check.same(name + " lost", x.about(job, 1), overlap == 1 ? 0 : 1);
        }
        x.stop();
        x.advance(400);
        Check.same(name + " misfire", x.go(), requestsAtGo);
        x.give(job);
        x.advance(200);
    }

    private static void atFirst() {
        shows("at first", new WheelScheduler(1), 1, 0, 0);
        WheelScheduler x = new WheelScheduler(1);
        x.job(1, 1, 1);
        x.request(0);
        x.request(0);
        x.request(0);
        x.advance(1);
        Check.same("overlap at first", x.about(0, 1), 1);
        Check.same("waiting at first", x.about(0, 3), 1);
        priorityAtFirst();
    }

    private static void priorityAtFirst() {
        WheelScheduler x = new WheelScheduler(1);
        x.job(0, 1, 0);
        x.job(0, 1, 0);
        x.manner(1, 0, 0, 0);
        x.job(0, 1, 0);
        x.give(0);
        x.job(0, 1, 0);
        x.advance(3);
        Check.same("no higher than 0", x.run(2, 0), 0);
        Check.same("no lower than 0", x.run(1, 0), 1);
        Check.same("made with 0", x.run(0, 0), 2);
    }

    private static void ranges() {
        int[][] right = {{1, 0, 0, 0}, {200, 9, 1, 2}, {100, 5, 0, 1}};
        for (int[] m : right) {
            Check.yes("manner " + java.util.Arrays.toString(m), new WheelScheduler(1).manner(m[0], m[1], m[2], m[3]));
        }
        int[][] wrong = {{0, 0, 0, 0}, {201, 0, 0, 0}, {-1, 0, 0, 0}, {LEAST, 0, 0, 0}, {GREATEST, 0, 0, 0},
            {1, -1, 0, 0}, {1, 10, 0, 0}, {1, LEAST, 0, 0}, {1, GREATEST, 0, 0},
            {1, 0, -1, 0}, {1, 0, 2, 0}, {1, 0, LEAST, 0}, {1, 0, GREATEST, 0},
            {1, 0, 0, -1}, {1, 0, 0, 3}, {1, 0, 0, LEAST}, {1, 0, 0, GREATEST}};
        for (int[] m : wrong) {
            Check.no("manner " + java.util.Arrays.toString(m), new WheelScheduler(1).manner(m[0], m[1], m[2], m[3]));
        }
    }

    private static void refusedKeepsTheOldOne() {
        WheelScheduler x = new WheelScheduler(1);
        Check.yes("manner(7, 0, 1, 1)", x.manner(7, 0, 1, 1));
        Check.no("misfire 3", x.manner(9, 5, 0, 3));
        Check.no("overlap 2", x.manner(9, 5, 2, 2));
        Check.no("priority 10", x.manner(9, 10, 0, 2));
        Check.no("duration 201", x.manner(201, 5, 0, 2));
        shows("after refusals", x, 7, 1, 1);
        Check.yes("manner(200, 9, 0, 2)", x.manner(200, 9, 0, 2));
        shows("long", x, 200, 0, 2);
        Check.yes("manner(1, 0, 0, 0)", x.manner(1, 0, 0, 0));
        shows("short", x, 1, 0, 0);
    }

    /** Each value just out of its range, the other three within theirs, but not as they were. */
    private static void eachRefusalKeepsAllFour() {
        int[][] wrong = {{0, 5, 0, 2}, {201, 5, 0, 2}, {9, -1, 0, 2}, {9, 10, 0, 2},
            {9, 5, -1, 2}, {9, 5, 2, 2}, {9, 5, 0, -1}, {9, 5, 0, 3}};
        for (int[] m : wrong) {
            String name = "after manner " + java.util.Arrays.toString(m);
            WheelScheduler x = new WheelScheduler(1);
            x.manner(1, 2, 0, 0);
            x.job(0, 1000, 0);
            x.manner(1, 4, 0, 0);
            x.job(0, 1000, 0);
            x.manner(7, 3, 1, 1);
            Check.no(name, x.manner(m[0], m[1], m[2], m[3]));
            x.job(1, 100, 1);
            x.request(0);
            for (int job = 0; job < 3; job++) {
                x.request(job);
            }
            x.advance(1);
            Check.same(name + ", priority 4 first", x.run(0, 0), 1);
            x.advance(1);
            Check.same(name + ", then the new job", x.run(0, 0), 2);
            Check.same(name + ", duration", x.nextEnd(), 9);
            x.advance(7);
            Check.same(name + ", priority 2 last", x.run(0, 0), 0);
            x.advance(93);
            Check.same(name + ", overlap: waiting", x.about(2, 3), 2);
            Check.same(name + ", overlap: lost", x.about(2, 1), 0);
            x.stop();
            x.advance(2);
            Check.same(name + ", misfire", x.go(), 1);
        }
    }

    private static void onlyJobsFromNowOn() {
        WheelScheduler x = new WheelScheduler(3);
        x.manner(5, 0, 0, 0);
        x.job(0, 10, 0);
        x.manner(50, 0, 0, 0);
        x.cron(1, 1, 1, 1, 1);
        x.request(0);
        Check.same("job made before", x.nextEnd(), 5);
        x.advance(6);
        x.request(1);
        Check.same("cron job made after", x.nextEnd(), 56);
        overlapAndMisfireOfOldJobsStay();
    }

    private static void overlapAndMisfireOfOldJobsStay() {
        WheelScheduler x = new WheelScheduler(3);
        x.manner(50, 0, 0, 0);
        x.job(1, 1, 1);
        x.manner(50, 0, 1, 2);
        x.job(1, 1, 1);
        x.manner(50, 0, 0, 1);
        x.advance(3);
        Check.same("overlap 0 stays", x.about(0, 1), 2);
        Check.same("overlap 1 stays", x.about(1, 1), 0);
        x.stop();
        x.advance(1);
        Check.same("misfire 0 and 2 stay", x.go(), 1);
        x.stop();
        x.advance(60);
        Check.same("the run ended", x.about(1, 4), 0);
        Check.same("the line is full", x.go(), 0);
        Check.same("one of it was started", x.about(1, 3), 2);
    }

    private static void priorityOrders() {
        WheelScheduler x = new WheelScheduler(1);
        for (int priority = 0; priority <= 9; priority++) {
            x.manner(1, priority, 0, 0);
            x.job(0, 1, 0);
        }
        x.advance(10);
        for (int k = 0; k < 10; k++) {
            Check.same("priority, run " + k, x.run(k, 0), k);
        }
    }
}
