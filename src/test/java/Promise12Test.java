/** Promise 12: run. */
public final class Promise12Test {
    private static final int REFUSED = WheelScheduler.REFUSED;

    public static void main(String[] args) {
        refused();
        notSoMany();
        sixteenRuns();
        startAndDue();
        givenUp();
        Check.end();
    }

    private static void refused() {
        WheelScheduler x = new WheelScheduler(1);
        Check.same("no run yet", x.run(0, 0), REFUSED);
        x.job(1, 1, 1);
        x.advance(40);
        int[] wrongK = {-1, 16, 17, Integer.MIN_VALUE, Integer.MAX_VALUE};
        for (int k : wrongK) {
            for (int what = 0; what <= 2; what++) {
                Check.same("k " + k, x.run(k, what), REFUSED);
            }
        }
        int[] wrongWhat = {-1, 3, Integer.MIN_VALUE, Integer.MAX_VALUE};
        for (int what : wrongWhat) {
            Check.same("what " + what, x.run(0, what), REFUSED);
        }
    }

    private static void notSoMany() {
        WheelScheduler x = new WheelScheduler(1);
        x.job(1, 1, 1);
        for (int runs = 0; runs <= 18; runs++) {
            int oldest = runs > 16 ? 15 : runs - 1;
            for (int what = 0; what <= 2; what++) {
                Check.same("the next after the oldest of " + runs, x.run(oldest + 1, what), REFUSED);
                if (runs > 0) {
                    int want = what == 0 ? 0 : runs - oldest;
                    Check.same("the oldest of " + runs + ", what " + what, x.run(oldest, what), want);
                }
            }
            Check.same("what -1", x.run(0, -1), REFUSED);
            Check.same("what 3", x.run(0, 3), REFUSED);
            Check.same("k -1", x.run(-1, 0), REFUSED);
            x.advance(1);
        }
    }

    /** An object for each time, for an object is used for at most 512 calls. */
    private static void sixteenRuns() {
        for (int time = 1; time <= 50; time++) {
            WheelScheduler x = new WheelScheduler(1);
            for (int job = 0; job < 5; job++) {
                x.job(1, job + 1, 5);
            }
            x.advance(time);
            for (int k = 0; k < 16; k++) {
                int start = time - k;
                Check.same("job, " + k + " before " + time, x.run(k, 0), start < 1 ? REFUSED : (start - 1) % 5);
                Check.same("start, " + k + " before " + time, x.run(k, 1), start < 1 ? REFUSED : start);
                Check.same("due, " + k + " before " + time, x.run(k, 2), start < 1 ? REFUSED : start);
            }
        }
    }

    private static void startAndDue() {
        WheelScheduler x = new WheelScheduler(3);
        x.manner(20, 1, 1, 0);
        x.job(1, 3, 4);
        x.job(0, 5, 0);
        x.manner(20, 2, 1, 0);
        x.job(0, 5, 0);
        x.advance(25);
        int[][] runs = {{0, 23, 7}, {1, 5, 5}, {2, 5, 5}, {0, 3, 3}};
        for (int k = 0; k < runs.length; k++) {
            for (int what = 0; what <= 2; what++) {
                Check.same("run " + k + ", what " + what, x.run(k, what), runs[k][what]);
            }
        }
        Check.same("no more", x.run(4, 0), REFUSED);
    }

    private static void givenUp() {
        WheelScheduler x = new WheelScheduler(2);
        x.job(0, 9, 0);
        x.job(0, 9, 0);
        x.advance(4);
        x.request(1);
        x.give(1);
        x.advance(2);
        x.job(0, 9, 0);
        x.request(1);
        Check.same("the new job's run", x.run(0, 1), 6);
        Check.same("the old job's number", x.run(1, 0), 1);
        Check.same("the old job's run", x.run(1, 1), 4);
        x.give(1);
        Check.same("both given up", x.run(0, 0), 1);
    }
}
