/** Promise 8: stop. */
public final class Promise08Test {
    public static void main(String[] args) {
        stopAndStopAgain();
        stoppedTwiceForgetsNothing();
        stoppedBeforeTheFirstTick();
        Check.end();
    }

    private static void stoppedTwiceForgetsNothing() {
        WheelScheduler x = new WheelScheduler(1);
        x.manner(1, 0, 0, 2);
        x.job(1, 1, 1);
        Check.yes("stop", x.stop());
        x.advance(1);
        Check.no("stop again", x.stop());
        x.advance(1);
        Check.no("stop a third time", x.stop());
        Check.same("stopped once, one go is enough", x.go(), 2);
        Check.same("not stopped", x.state(4), 0);
    }

    private static void stoppedBeforeTheFirstTick() {
        WheelScheduler x = new WheelScheduler(1);
        Check.yes("stop a new object", x.stop());
        Check.no("twice", x.stop());
        Check.same("a job can be made", x.job(0, 1, 0), 0);
        Check.same("time goes on", x.advance(2), 2);
        Check.same("missed", x.about(0, 2), 1);
        Check.same("not started", x.state(3), 0);
        Check.same("nothing waits", x.state(2), 0);
    }

    private static void stopAndStopAgain() {
        WheelScheduler x = new WheelScheduler(1);
        x.manner(5, 0, 1, 0);
        x.job(1, 1, 2);
        x.job(2, 4, 3);
        x.job(0, 5, 0);
        x.cron(1023, 255, 1023, 15, 127);
        x.advance(2);
        Check.yes("stop", x.stop());
        String before = Check.picture(x);
        Check.no("stop again", x.stop());
        Check.unchanged("stop again", before, x);
        Check.same("stopped", x.state(4), 1);
        Check.same("requests stay", x.about(3, 3), 2);
        x.advance(8);
        Check.no("stop after ticks", x.stop());
        Check.same("every: missed at 3, 5, 7, 9", x.about(0, 2), 4);
        Check.same("after: missed at 4, 7, 10", x.about(1, 2), 3);
        Check.same("after: due a pause later", x.due(1), 13);
        Check.same("once: missed at 5", x.about(2, 2), 1);
        Check.same("once: not due again", x.due(2), WheelScheduler.NEVER);
        Check.same("cron: missed at each tick", x.about(3, 2), 8);
        Check.same("requests wait", x.about(3, 3), 2);
        Check.same("nothing lost", x.about(3, 1), 0);
        Check.same("nothing started", x.state(3), 1);
        Check.same("the run ended", x.state(1), 1);
        x.go();
        Check.yes("stop after go", x.stop());
    }
}
