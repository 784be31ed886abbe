import java.util.LinkedHashMap;
import java.util.Map;
import java.util.function.Supplier;
import java.util.function.ToIntFunction;

/** Promise 15: a refused call changes nothing, in whatever state the object is; due tells REFUSED before NEVER. */
public final class Promise15Test {
    private static final int REFUSED = WheelScheduler.REFUSED, NEVER = WheelScheduler.NEVER;
    private static final int LEAST = Integer.MIN_VALUE, GREATEST = Integer.MAX_VALUE;

    public static void main(String[] args) {
        inEachState();
        whenNotStopped();
        whenStopped();
        whenALimitIsReached();
        whenSomethingIsNotThere();
        atTheEndOfTime();
        mannerStays();
        dueTellsRefusedFirst();
        Check.end();
    }

    private static WheelScheduler fresh() {
        WheelScheduler x = new WheelScheduler(2);
        x.manner(3, 2, 1, 2);
        return x;
    }

    /** Twelve jobs of all kinds, some with a run, some with a full line. */
    private static WheelScheduler busy() {
        WheelScheduler x = new WheelScheduler(2);
        for (int job = 0; job < 12; job++) {
            x.manner(5 + job, job % 3, job % 2, (job / 2) % 3);
            if (job % 4 == 3) {
                x.cron(1 << job % 10 | 2, 255, 1023, 15, 127);
            } else {
                x.job(job % 4, 1 + job, 3 + job);
            }
        }
        x.advance(30);
        return x;
    }

    private static WheelScheduler stopped() {
        WheelScheduler x = busy();
        x.stop();
        x.advance(30);
        return x;
    }

    private static WheelScheduler givenUp() {
        WheelScheduler x = busy();
        x.give(x.run(0, 0));
        return x;
    }

    private static Map<String, ToIntFunction<WheelScheduler>> wrongNumbers() {
        Map<String, ToIntFunction<WheelScheduler>> calls = new LinkedHashMap<>();
        int[] noJob = {-1, 12, LEAST, GREATEST};
        for (int job : noJob) {
            calls.put("give " + job, x -> Twins.answer(x.give(job)));
            calls.put("request " + job, x -> x.request(job));
            calls.put("due " + job, x -> x.due(job));
            calls.put("about " + job, x -> x.about(job, 0));
        }
        int[] noTicks = {-1, 30001, LEAST, GREATEST};
        for (int n : noTicks) {
            calls.put("advance " + n, x -> x.advance(n));
        }
        int[][] noManner = {{0, 9, 0, 1}, {201, 9, 0, 1}, {50, -1, 0, 1}, {50, 10, 0, 1},
            {50, 9, -1, 1}, {50, 9, 2, 1}, {50, 9, 0, -1}, {50, 9, 0, 3}};
        for (int[] m : noManner) {
            calls.put("manner " + java.util.Arrays.toString(m), x -> Twins.answer(x.manner(m[0], m[1], m[2], m[3])));
        }
        int[][] noKindOrPeriod = {{-1, 1}, {3, 1}, {1, 0}, {1, 2001}, {2, 0}, {2, 2001}};
        for (int[] j : noKindOrPeriod) {
            calls.put("job " + java.util.Arrays.toString(j), x -> x.job(j[0], x.state(0) + 2, j[1]));
        }
        for (int kind = 0; kind <= 2; kind++) {
            int k = kind;
            calls.put("job of kind " + k + " now", x -> x.job(k, x.state(0), 1));
            calls.put("job of kind " + k + " too late", x -> x.job(k, 1000001, 1));
        }
        calls.put("cron, minutes", x -> x.cron(1024, 255, 1023, 15, 127));
        calls.put("cron, hours", x -> x.cron(1023, 256, 1023, 15, 127));
        calls.put("cron, days", x -> x.cron(1023, 255, 1024, 15, 127));
        calls.put("cron, months", x -> x.cron(1023, 255, 1023, 16, 127));
        calls.put("cron, weekdays", x -> x.cron(1023, 255, 1023, 15, 128));
        calls.put("cron, an empty set", x -> x.cron(1023, 255, 1023, 15, 0));
        int[] noWhat = {-1, 10, LEAST, GREATEST};
        for (int what : noWhat) {
            calls.put("about, what " + what, x -> x.about(1, what));
            calls.put("run, what " + what, x -> x.run(0, what));
            calls.put("state " + what, x -> x.state(what));
        }
        calls.put("run -1", x -> x.run(-1, 0));
        calls.put("run 16", x -> x.run(16, 0));
        return calls;
    }

    private static void inEachState() {
        Map<String, Supplier<WheelScheduler>> states = new LinkedHashMap<>();
        states.put("new", Promise15Test::fresh);
        states.put("busy", Promise15Test::busy);
        states.put("stopped", Promise15Test::stopped);
        states.put("with a job given up", Promise15Test::givenUp);
        states.forEach((state, story) ->
                wrongNumbers().forEach((name, call) -> Twins.refused(name + ", " + state, story, call)));
    }

    private static void whenNotStopped() {
        Twins.refused("go, new", Promise15Test::fresh, x -> x.go());
        Twins.refused("go, busy", Promise15Test::busy, x -> x.go());
        Twins.refused("go twice", () -> {
            WheelScheduler x = stopped();
            x.go();
            return x;
        }, x -> x.go());
    }

    private static void whenStopped() {
        Twins.refused("stop twice", Promise15Test::stopped, x -> Twins.answer(x.stop()));
        Twins.refused("stop twice at once", () -> {
            WheelScheduler x = fresh();
            x.stop();
            return x;
        }, x -> Twins.answer(x.stop()));
        for (int job = 0; job < 12; job++) {
            int j = job;
            Twins.refused("request " + j + ", stopped", Promise15Test::stopped, x -> x.request(j));
        }
    }

    private static void whenALimitIsReached() {
        for (int kind = 0; kind <= 2; kind++) {
            int k = kind;
            Twins.refused("13th job", Promise15Test::busy, x -> x.job(k, x.state(0) + 2, 1));
            Twins.refused("13th job, stopped", Promise15Test::stopped, x -> x.job(k, x.state(0) + 2, 1));
        }
        Twins.refused("13th job by cron", Promise15Test::busy, x -> x.cron(1023, 255, 1023, 15, 127));
        Twins.refused("13th job by cron, stopped", Promise15Test::stopped, x -> x.cron(1023, 255, 1023, 15, 127));
        for (int job = 0; job < 12; job++) {
            int j = job;
            Twins.refused("a request too many of " + j, () -> fullLine(j), x -> x.request(j));
        }
    }

    /** Three wait of it, due at different times. */
    private static WheelScheduler fullLine(int job) {
        WheelScheduler x = busy();
        for (int i = 0; i < 4 && x.about(job, 3) < 3; i++) {
            x.request(job);
            x.advance(1);
        }
        for (int i = 0; i < 4 && x.about(job, 3) < 3; i++) {
            x.request(job);
        }
        return x;
    }

    private static void whenSomethingIsNotThere() {
        int number = busy().run(0, 0);
        Twins.refused("give", Promise15Test::givenUp, x -> Twins.answer(x.give(number)));
        Twins.refused("request", Promise15Test::givenUp, x -> x.request(number));
        Twins.refused("due", Promise15Test::givenUp, x -> x.due(number));
        Twins.refused("about", Promise15Test::givenUp, x -> x.about(number, 0));
        for (int k = 0; k < 16; k++) {
            int before = k;
            Twins.refused("run", Promise15Test::fresh, x -> x.run(before, 0));
        }
    }

    private static WheelScheduler atTheEnd() {
        WheelScheduler x = new WheelScheduler(1);
        x.manner(7, 0, 1, 0);
        x.job(1, 999990, 1);
        Check.advanceTo(x, 1000000);
        return x;
    }

    private static void atTheEndOfTime() {
        WheelScheduler x = atTheEnd();
        String before = Check.picture(x);
        wrongNumbers().forEach((name, call) -> {
            Check.same(name + ", at the end of time", call.applyAsInt(x), REFUSED);
        });
        Check.unchanged("refused calls at the end of time", before, x);
    }

    private static void mannerStays() {
        wrongNumbers().forEach((name, call) -> {
            WheelScheduler x = new WheelScheduler(1);
            x.manner(33, 0, 0, 0);
            call.applyAsInt(x);
            x.job(0, 10, 0);
            x.request(0);
            Check.same("the manner stays, " + name, x.nextEnd(), 33);
        });
    }

    private static void dueTellsRefusedFirst() {
        WheelScheduler x = new WheelScheduler(1);
        x.job(0, 1, 0);
        x.advance(1);
        Check.same("a job that is not due again", x.due(0), NEVER);
        x.give(0);
        Check.same("the same job, given up", x.due(0), REFUSED);
        x = atTheEnd();
        Check.same("at the end of time, a job", x.due(0), NEVER);
        int[] noJob = {-1, 1, 11, 12, LEAST, GREATEST};
        for (int job : noJob) {
            Check.same("at the end of time, no job " + job, x.due(job), REFUSED);
        }
    }
}
