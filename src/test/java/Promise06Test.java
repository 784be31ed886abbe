/** Promise 6: advance, and the three parts of a tick. */
public final class Promise06Test {
    private static final int REFUSED = WheelScheduler.REFUSED;

    public static void main(String[] args) {
        numbers();
        aMillionIsReachedExactly();
        manyTicksAreOneByOne();
        lastTime();
        endsBeforeDue();
        lostByOverlap();
        lostByFullLine();
        orderOfStarts();
        orderWithinAJob();
        oneRunOfAJob();
        whileStopped();
        Check.end();
    }

    private static void numbers() {
        WheelScheduler x = new WheelScheduler(1);
        x.job(1, 1, 1);
        String before = Check.picture(x);
        int[] wrong = {-1, 30001, Integer.MIN_VALUE, Integer.MAX_VALUE};
        for (int n : wrong) {
            Check.same("advance " + n, x.advance(n), REFUSED);
        }
        Check.same("advance 0", x.advance(0), 0);
        Check.unchanged("advance of no tick", before, x);
        Check.same("advance 1", x.advance(1), 1);
        Check.same("one run", x.state(3), 1);
        Check.same("advance 30000", x.advance(30000), 30001);
        Check.same("a run at each tick", x.state(3), 30001);
    }

    private static void aMillionIsReachedExactly() {
        int[] starts = {969999, 970000, 970001, 999999, 1000000};
        int[] ends = {999999, 1000000, 1000000, 1000000, 1000000};
        for (int i = 0; i < starts.length; i++) {
            WheelScheduler x = new WheelScheduler(1);
            Check.advanceTo(x, starts[i]);
            Check.same("30000 ticks from " + starts[i], x.advance(30000), ends[i]);
            Check.same("29999 more", x.advance(29999), 1000000);
            Check.same("0 more", x.advance(0), 1000000);
            Check.same("-1 more", x.advance(-1), REFUSED);
            Check.same("the time", x.state(0), 1000000);
        }
    }

    private static WheelScheduler everyKind() {
        WheelScheduler x = new WheelScheduler(2);
        for (int job = 0; job < 9; job++) {
            x.manner(2 + job, job % 4, job % 2, 0);
            x.job(job % 3, 2 + job, 5 + job);
        }
        x.cron(1 << 3 | 1 << 8, 255, 1023, 15, 127);
        return x;
    }

    private static void manyTicksAreOneByOne() {
        WheelScheduler together = everyKind();
        WheelScheduler apart = everyKind();
        together.advance(90);
        for (int tick = 0; tick < 90; tick++) {
            apart.advance(1);
            apart.advance(0);
        }
        Check.unchanged("90 ticks at once, and one by one with none between them", Check.picture(apart), together);
    }

    private static void lastTime() {
        WheelScheduler x = new WheelScheduler(1);
        x.job(0, 1000000, 0);
        for (int i = 1; i <= 33; i++) {
            Check.same("advance", x.advance(30000), 30000 * i);
        }
        Check.same("to 999999", x.advance(9999), 999999);
        Check.same("not due yet", x.about(0, 0), 0);
        Check.same("fewer ticks", x.advance(2), 1000000);
        Check.same("due at the last time", x.about(0, 0), 1);
        Check.same("no more ticks", x.advance(30000), 1000000);
        Check.same("no tick", x.advance(0), 1000000);
        Check.same("refused at the end too", x.advance(30001), REFUSED);
        Check.same("a run goes on at the end", x.about(0, 4), 1);
    }

    private static void endsBeforeDue() {
        WheelScheduler x = new WheelScheduler(1);
        x.manner(5, 0, 0, 0);
        x.job(1, 5, 5);
        x.advance(5);
        x.advance(5);
        Check.same("ended, due and started in one tick", x.about(0, 0), 2);
        Check.same("nothing lost", x.about(0, 1), 0);
        x.advance(4);
        Check.same("goes on till its end", x.nextEnd(), 15);
    }

    private static void lostByOverlap() {
        WheelScheduler x = new WheelScheduler(1);
        x.manner(10, 0, 0, 0);
        x.job(1, 1, 3);
        x.job(1, 2, 3);
        x.advance(1);
        x.advance(3);
        Check.same("lost because of its run", x.about(0, 1), 1);
        Check.same("waits", x.about(1, 3), 1);
        x.advance(1);
        Check.same("lost because of its request", x.about(1, 1), 1);
        Check.same("still one waits", x.about(1, 3), 1);
    }

    private static void lostByFullLine() {
        WheelScheduler x = new WheelScheduler(1);
        x.manner(100, 0, 1, 0);
        x.job(1, 1, 1);
        x.advance(4);
        Check.same("three wait", x.about(0, 3), 3);
        Check.same("none lost", x.about(0, 1), 0);
        x.advance(1);
        Check.same("three wait still", x.about(0, 3), 3);
        Check.same("one lost", x.about(0, 1), 1);
        x.advance(95);
        Check.same("lost before the end", x.about(0, 1), 96);
        x.advance(1);
        Check.same("the line is full when it is due at 101", x.about(0, 1), 97);
        Check.same("the earliest was started", x.run(0, 2), 2);
        Check.same("two wait", x.about(0, 3), 2);
        x.advance(1);
        Check.same("three wait again", x.about(0, 3), 3);
    }

    private static void orderOfStarts() {
        WheelScheduler x = new WheelScheduler(1);
        x.manner(10, 0, 0, 0);
        x.job(0, 1, 0);
        x.manner(1, 5, 0, 0);
        x.job(0, 4, 0);
        x.job(0, 3, 0);
        x.job(0, 3, 0);
        x.manner(1, 6, 0, 0);
        x.job(0, 9, 0);
        x.manner(1, 4, 0, 0);
        x.job(0, 2, 0);
        x.advance(15);
        int[] order = {0, 4, 2, 3, 1, 5};
        for (int i = 0; i < order.length; i++) {
            Check.same("start " + i, x.run(order.length - 1 - i, 0), order[i]);
            Check.same("time of start " + i, x.run(order.length - 1 - i, 1), i == 0 ? 1 : 10 + i);
        }
    }

    private static void orderWithinAJob() {
        WheelScheduler x = new WheelScheduler(1);
        x.manner(10, 0, 1, 0);
        for (int job = 0; job < 12; job++) {
            x.job(0, 1000000, 0);
        }
        for (int job = 0; job < 12; job += 11) {
            int begin = x.state(0);
            for (int i = 0; i < 4; i++) {
                x.request(job);
                x.advance(i < 3 ? 2 : 30);
            }
            for (int i = 0; i < 4; i++) {
                Check.same("job " + job + ", start " + i, x.run(3 - i, 1), begin + 10 * i);
                Check.same("job " + job + ", due time " + i, x.run(3 - i, 2), begin + 2 * i);
            }
            x.advance(10);
        }
    }

    private static void oneRunOfAJob() {
        WheelScheduler x = new WheelScheduler(3);
        x.manner(10, 9, 1, 0);
        x.job(1, 1, 1);
        x.manner(10, 0, 0, 0);
        x.job(0, 3, 0);
        x.advance(3);
        Check.same("one run of job 0", x.about(0, 0), 1);
        Check.same("two of it wait", x.about(0, 3), 2);
        Check.same("the job behind it is started", x.about(1, 4), 1);
        Check.same("one worker is free", x.state(1), 1);
    }

    private static void whileStopped() {
        WheelScheduler x = new WheelScheduler(1);
        x.manner(3, 0, 1, 0);
        x.job(1, 1, 1);
        x.advance(2);
        x.stop();
        x.advance(1);
        Check.same("the run goes on", x.about(0, 4), 1);
        x.advance(1);
        Check.same("it ends", x.about(0, 4), 0);
        Check.same("nothing is started", x.state(3), 1);
        Check.same("the request waits", x.about(0, 3), 1);
        Check.same("missed", x.about(0, 2), 2);
        Check.same("not lost", x.about(0, 1), 0);
    }
}
