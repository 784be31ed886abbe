import java.util.ArrayList;
import java.util.List;
import java.util.function.Supplier;
import java.util.function.ToIntFunction;

/**
 * Two objects that have had the same calls, but that one has had a call more, which is refused. What was changed may
 * not be seen at once (the due time of a request that waits, a period, what was missed), so both go on for a while.
 */
final class Twins {
    private Twins() {
    }

    /** The story may make up to 100 calls: an object is used for at most 512. */
    static void refused(String name, Supplier<WheelScheduler> story, ToIntFunction<WheelScheduler> call) {
        WheelScheduler with = story.get();
        WheelScheduler without = story.get();
        Check.same(name, call.applyAsInt(with), WheelScheduler.REFUSED);
        Check.yes(name + " changed nothing", future(with).equals(future(without)));
    }

    static int answer(boolean done) {
        return done ? 1 : WheelScheduler.REFUSED;
    }

    private static List<String> future(WheelScheduler x) {
        List<String> seen = new ArrayList<>();
        seen.add(Check.picture(x));
        seen.add("go " + x.go());
        for (int tick = 0; tick < 12; tick++) {
            seen.add("time " + x.advance(1) + " wait " + x.state(2) + " end " + x.nextEnd());
            for (int k = 0; k < 2; k++) {
                seen.add("run " + x.run(k, 0) + " due " + x.run(k, 2));
            }
        }
        x.give(0);
        seen.add("job " + x.job(2, x.state(0) + 3, 5) + " request " + x.request(0));
        seen.add("stop " + x.stop());
        for (int i = 0; i < 4; i++) {
            seen.add("time " + x.advance(1 + 90 * i) + " go " + x.go() + " runs " + x.state(3) + " end " + x.nextEnd());
        }
        for (int job = 0; job < 12; job++) {
            for (int what = 0; what <= 2; what++) {
                seen.add(job + " has " + x.about(job, what));
            }
            seen.add(job + " due " + x.due(job));
        }
        for (int k = 0; k < 16; k++) {
            seen.add("run " + x.run(k, 0) + " at " + x.run(k, 1) + " due " + x.run(k, 2));
        }
        return seen;
    }
}
