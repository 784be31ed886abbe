/** Promise 13: state. */
public final class Promise13Test {
    public static void main(String[] args) {
        refused();
        counts();
        calendar();
        Check.end();
    }

    private static void refused() {
        WheelScheduler x = new WheelScheduler(1);
        int[] wrong = {-1, 10, Integer.MIN_VALUE, Integer.MAX_VALUE};
        for (int what : wrong) {
            Check.same("state " + what, x.state(what), WheelScheduler.REFUSED);
        }
        x.stop();
        x.advance(30000);
        for (int what : wrong) {
            Check.same("later, state " + what, x.state(what), WheelScheduler.REFUSED);
        }
        all("all others", x, 30000, 1, 0, 0, 1, 0, 0, 6, 2, 4);
    }

    private static void all(String name, WheelScheduler x, int... want) {
        for (int what = 0; what < want.length; what++) {
            Check.same(name + ", what " + what, x.state(what), want[what]);
        }
    }

    private static void counts() {
        WheelScheduler x = new WheelScheduler(2);
        x.manner(10, 0, 1, 0);
        x.job(1, 1, 3);
        x.job(1, 2, 3);
        x.job(0, 3, 0);
        all("at first", x, 0, 2, 0, 0, 0);
        x.advance(1);
        all("one run", x, 1, 1, 0, 1, 0);
        x.advance(1);
        all("two runs", x, 2, 0, 0, 2, 0);
        x.advance(3);
        all("three wait", x, 5, 0, 3, 2, 0);
        x.stop();
        x.advance(10);
        all("stopped", x, 15, 2, 3, 2, 1);
        x.give(2);
        all("one given up", x, 15, 2, 2, 2, 1);
        x.go();
        all("goes on", x, 15, 0, 0, 4, 0);
    }

    private static void calendar() {
        int minute = 0;
        int hour = 0;
        int day = 1;
        int month = 1;
        int weekday = 0;
        WheelScheduler x = new WheelScheduler(1);
        for (int time = 0; time <= 25000; time++) {
            if (time % 60 == 0) {
                // An object is used for at most 512 calls.
                x = new WheelScheduler(1);
                x.advance(time);
            }
            Check.same("time", x.state(0), time);
            Check.same("minute at " + time, x.state(5), minute);
            Check.same("hour at " + time, x.state(6), hour);
            Check.same("day at " + time, x.state(7), day);
            Check.same("month at " + time, x.state(8), month);
            Check.same("weekday at " + time, x.state(9), weekday);
            x.advance(1);
            minute = minute == 9 ? 0 : minute + 1;
            if (minute == 0) {
                hour = hour == 7 ? 0 : hour + 1;
            }
            if (minute == 0 && hour == 0) {
                weekday = weekday == 6 ? 0 : weekday + 1;
                day = day == 10 ? 1 : day + 1;
                if (day == 1) {
                    month = month == 4 ? 1 : month + 1;
                }
            }
        }
    }
}
