import java.util.Random;

/** Long runs of drawn calls, on an object and on the model; the seeds are fixed, so each test draws the same ones. */
public final class ModelTest {
    private static final int OBJECTS = 1500;
    /** An object is used for at most 512 calls. */
    private static final int CALLS = 512;

    private final Random draw;
    private final WheelScheduler x;
    private final Model model;
    private final String name;
    private final boolean fast;
    private final boolean late;

    private ModelTest(int seed) {
        draw = new Random(seed);
        int workers = draw.nextInt(6) - 1;
        x = new WheelScheduler(workers);
        model = new Model(workers);
        name = "seed " + seed + ", call ";
        fast = seed % 50 == 0;
        late = seed % 25 == 1;
    }

    public static void main(String[] args) {
        for (int seed = 0; seed < OBJECTS; seed++) {
            new ModelTest(seed).calls();
        }
        Check.end();
    }

    private void calls() {
        int first = late ? nearTheEndOfTime() : 0;
        for (int i = first; i < CALLS; i++) {
            call(name + i + ": ");
        }
    }

    /** With few ticks left, so that the last ones are among the calls; answers how many calls that took. */
    private int nearTheEndOfTime() {
        int ticks = 1000000 - draw.nextInt(1000);
        int calls = 0;
        while (ticks > 0) {
            int n = Math.min(30000, ticks);
            Check.same(name + "advance", x.advance(n), model.advance(n));
            ticks -= n;
            calls++;
        }
        return calls;
    }

    /** Mostly within the range, now and then just outside it, seldom far outside. */
    private int near(int least, int greatest) {
        int much = draw.nextInt(40);
        if (much == 2 && draw.nextInt(8) == 0) {
            return draw.nextBoolean() ? Integer.MIN_VALUE : Integer.MAX_VALUE;
        }
        return much == 0 ? least - 1 : much == 1 ? greatest + 1 : least + draw.nextInt(greatest - least + 1);
    }

    private int set(int bits) {
        int all = (1 << bits) - 1;
        switch (draw.nextInt(12)) {
            case 0: return 1 << draw.nextInt(bits);
            case 1: return near(1, all);
            case 2: case 3: case 4: return 1 + draw.nextInt(all);
            default: return all;
        }
    }

    private void call(String at) {
        int choice = draw.nextInt(100);
        if (choice < 8) {
            manner(at);
        } else if (choice < 16) {
            job(at);
        } else if (choice < 20) {
            cron(at);
        } else if (choice < 22) {
            int job = near(0, 11);
            Check.same(at + "give " + job, x.give(job) ? 1 : 0, model.give(job) ? 1 : 0);
        } else if (choice < 45) {
            advance(at);
        } else if (choice < 55) {
            int job = near(0, 11);
            Check.same(at + "request " + job, x.request(job), model.request(job));
        } else if (choice < 58) {
            Check.same(at + "stop", x.stop() ? 1 : 0, model.stop() ? 1 : 0);
        } else if (choice < 63) {
            Check.same(at + "go", x.go(), model.go());
        } else {
            ask(at, choice);
        }
    }

    private void manner(String at) {
        int duration = near(1, draw.nextInt(3) == 0 ? 200 : 12);
        int priority = near(0, draw.nextInt(2) == 0 ? 9 : 2);
        int overlap = near(0, 1);
        int misfire = near(0, 2);
        Check.same(at + "manner " + duration + " " + priority + " " + overlap + " " + misfire,
                x.manner(duration, priority, overlap, misfire) ? 1 : 0,
                model.manner(duration, priority, overlap, misfire) ? 1 : 0);
    }

    private void job(String at) {
        int kind = near(0, 2);
        int first = model.state(0) + near(1, draw.nextInt(4) == 0 ? 3000 : 20);
        int period = near(1, draw.nextInt(4) == 0 ? 2000 : 25);
        Check.same(at + "job " + kind + " " + first + " " + period,
                x.job(kind, first, period), model.job(kind, first, period));
    }

    private void cron(String at) {
        int minutes = set(10);
        int hours = set(8);
        int days = set(10);
        int months = set(4);
        int weekdays = set(7);
        Check.same(at + "cron " + minutes + " " + hours + " " + days + " " + months + " " + weekdays,
                x.cron(minutes, hours, days, months, weekdays), model.cron(minutes, hours, days, months, weekdays));
    }

    private void advance(String at) {
        int n = fast && draw.nextInt(4) == 0 ? near(0, 30000) : draw.nextInt(5) == 0 ? near(0, 100) : near(0, 8);
        Check.same(at + "advance " + n, x.advance(n), model.advance(n));
    }

    private void ask(String at, int choice) {
        if (choice < 70) {
            int job = near(0, 11);
            Check.same(at + "due " + job, x.due(job), model.due(job));
        } else if (choice < 82) {
            int job = near(0, 11);
            int what = near(0, 5);
            Check.same(at + "about " + job + " " + what, x.about(job, what), model.about(job, what));
        } else if (choice < 90) {
            int k = near(0, draw.nextInt(3) == 0 ? 15 : 2);
            int what = near(0, 2);
            Check.same(at + "run " + k + " " + what, x.run(k, what), model.run(k, what));
        } else if (choice < 96) {
            int what = near(0, 9);
            Check.same(at + "state " + what, x.state(what), model.state(what));
        } else {
            Check.same(at + "nextEnd", x.nextEnd(), model.nextEnd());
        }
    }
}
