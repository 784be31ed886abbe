/** The example of README.md, call by call, with the answers that stand there. */
public final class ReadmeTest {
    public static void main(String[] args) {
        WheelScheduler x = new WheelScheduler(2);
        Check.yes("manner", x.manner(5, 3, 0, 1));
        Check.same("job, every", x.job(1, 10, 20), 0);
        Check.same("job, after", x.job(2, 12, 8), 1);
        Check.same("cron", x.cron(1, 1, 1023, 15, 127), 2);
        Check.same("advance 100", x.advance(100), 100);
        Check.same("due", x.due(0), 110);
        Check.same("about", x.about(1, 0), 7);
        Check.same("request", x.request(2), 1);
        Check.same("nextEnd", x.nextEnd(), 105);
        Check.same("run", x.run(0, 0), 2);
        Check.yes("stop", x.stop());
        Check.same("advance 50", x.advance(50), 150);
        Check.same("go", x.go(), 2);
        Check.same("state", x.state(2), 0);
        Check.yes("give", x.give(2));
        Check.same("due of no job", x.due(2), WheelScheduler.REFUSED);
        Check.end();
    }
}
