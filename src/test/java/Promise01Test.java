/** Promise 1: a new object. */
public final class Promise01Test {
    public static void main(String[] args) {
        int[] asked = {Integer.MIN_VALUE, -1, 0, 1, 2, 3, 4, Integer.MAX_VALUE};
        int[] had = {1, 1, 1, 1, 2, 3, 3, 3};
        for (int i = 0; i < asked.length; i++) {
            newObject(asked[i], had[i]);
        }
        objectsAreApart();
        jobsAreDueFromTickOne();
        Check.end();
    }

    private static void newObject(int asked, int had) {
        WheelScheduler x = new WheelScheduler(asked);
        String made = "new(" + asked + ") ";
        Check.same(made + "time", x.state(0), 0);
        Check.same(made + "free", x.state(1), had);
        Check.same(made + "waiting", x.state(2), 0);
        Check.same(made + "started", x.state(3), 0);
        Check.same(made + "stopped", x.state(4), 0);
        Check.same(made + "go", x.go(), WheelScheduler.REFUSED);
        Check.same(made + "nextEnd", x.nextEnd(), WheelScheduler.NEVER);
        Check.same(made + "run", x.run(0, 0), WheelScheduler.REFUSED);
        for (int job = 0; job < 12; job++) {
            Check.same(made + "due " + job, x.due(job), WheelScheduler.REFUSED);
            Check.no(made + "give " + job, x.give(job));
        }
        for (int job = 0; job < 5; job++) {
            x.job(0, 100, 0);
            Check.same(made + "request " + job, x.request(job), job < had ? 1 : 0);
        }
        Check.same(made + "free after requests", x.state(1), 0);
        Check.same(made + "waiting after requests", x.state(2), 5 - had);
    }

    private static void jobsAreDueFromTickOne() {
        WheelScheduler x = new WheelScheduler(0);
        Check.same("now is time 0", x.job(0, 0, 0), WheelScheduler.REFUSED);
        Check.same("time 1 is later", x.job(0, 1, 0), 0);
        Check.same("not stopped, so it is started", x.advance(1), 1);
        Check.same("not stopped, so nothing is missed", x.about(0, 2), 0);
        Check.same("the one worker does it", x.state(1), 0);
    }

    private static void objectsAreApart() {
        WheelScheduler x = new WheelScheduler(1);
        WheelScheduler y = new WheelScheduler(1);
        String before = Check.picture(y);
        x.job(1, 1, 1);
        x.advance(20);
        x.stop();
        Check.unchanged("calls on another object", before, y);
    }
}
