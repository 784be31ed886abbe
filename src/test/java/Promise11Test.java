/** Promise 11: about. */
public final class Promise11Test {
    private static final int REFUSED = WheelScheduler.REFUSED;

    public static void main(String[] args) {
        refused();
        eachJobNumber();
        counts();
        Check.end();
    }

    private static void refused() {
        WheelScheduler x = new WheelScheduler(1);
        x.job(1, 1, 1);
        int[] wrong = {-1, 6, Integer.MIN_VALUE, Integer.MAX_VALUE};
        for (int number : wrong) {
            Check.same("what " + number, x.about(0, number), REFUSED);
            Check.same("job " + number, x.about(number, 0), REFUSED);
        }
        for (int what = 0; what <= 5; what++) {
            Check.same("job 1", x.about(1, what), REFUSED);
            Check.same("job 11", x.about(11, what), REFUSED);
            Check.same("job 12", x.about(12, what), REFUSED);
        }
    }

    private static void eachJobNumber() {
        WheelScheduler x = new WheelScheduler(1);
        for (int job = 0; job < 12; job++) {
            x.job(job % 3, 10, 10);
            for (int other = 0; other < 12; other++) {
                Check.same("kind of " + other, x.about(other, 5), other > job ? REFUSED : other % 3);
            }
            Check.same("what -1", x.about(job, -1), REFUSED);
            Check.same("what 6", x.about(job, 6), REFUSED);
        }
        x.give(4);
        for (int what = -1; what <= 6; what++) {
            Check.same("given up, what " + what, x.about(4, what), REFUSED);
            Check.same("never there, what " + what, x.about(12, what), REFUSED);
        }
    }

    private static void all(String name, WheelScheduler x, int job, int... want) {
        for (int what = 0; what < want.length; what++) {
            Check.same(name + ", job " + job + ", what " + what, x.about(job, what), want[what]);
        }
    }

    private static void counts() {
        WheelScheduler x = new WheelScheduler(1);
        x.manner(10, 0, 1, 2);
        x.job(1, 1, 2);
        x.manner(10, 0, 0, 1);
        x.job(2, 2, 3);
        x.job(0, 4, 0);
        x.cron(32, 255, 1023, 15, 127);
        all("at first", x, 0, 0, 0, 0, 0, 0, 1);
        all("at first", x, 1, 0, 0, 0, 0, 0, 2);
        all("at first", x, 2, 0, 0, 0, 0, 0, 0);
        all("at first", x, 3, 0, 0, 0, 0, 0, 3);
        x.advance(10);
        all("at 10", x, 0, 1, 1, 0, 3, 1, 1);
        all("at 10", x, 1, 0, 0, 0, 1, 0, 2);
        all("at 10", x, 2, 0, 0, 0, 1, 0, 0);
        all("at 10", x, 3, 0, 0, 0, 1, 0, 3);
        x.stop();
        x.advance(10);
        all("at 20", x, 0, 1, 1, 5, 3, 0, 1);
        all("at 20", x, 3, 0, 0, 1, 1, 0, 3);
        Check.same("go", x.go(), 1);
        all("after go", x, 0, 1, 1, 5, 3, 0, 1);
        all("after go", x, 1, 1, 0, 0, 0, 1, 2);
        all("after go", x, 2, 0, 0, 0, 1, 0, 0);
        all("after go", x, 3, 0, 0, 1, 2, 0, 3);
    }
}
