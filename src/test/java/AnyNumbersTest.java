import java.util.Random;

/**
 * No call may throw or fail to end (rule 7 of ../shared/LANGUAGE.md), for any arguments in any state, nor after the
 * 512th call, whose answers are free: so none is looked at here, and what is thrown ends the test.
 */
public final class AnyNumbersTest {
    private static final int OBJECTS = 200, CALLS = 2000;
    private static final int[] EDGES = {Integer.MIN_VALUE, Integer.MIN_VALUE + 1, -1000001, -30001, -2, -1, 0, 1, 2, 3, 4,
        7, 9, 10, 11, 12, 15, 16, 127, 128, 200, 201, 255, 256, 1023, 1024, 2000, 2001, 29999, 30000, 30001, 999999,
        1000000, 1000001, 1 << 30, Integer.MAX_VALUE - 1, Integer.MAX_VALUE};

    private final Random draw;
    private final WheelScheduler x;

    private AnyNumbersTest(int seed) {
        draw = new Random(seed);
        x = new WheelScheduler(any());
        if (seed % 4 == 0) {
            Check.advanceTo(x, 999900 + seed / 2);
        }
    }

    public static void main(String[] args) {
        for (int seed = 0; seed < OBJECTS; seed++) {
            AnyNumbersTest test = new AnyNumbersTest(seed);
            for (int i = 0; i < CALLS; i++) {
                test.call();
            }
        }
        Check.end();
    }

    /** Half of the numbers are small, so that calls are also carried out. */
    private int any() {
        switch (draw.nextInt(6)) {
            case 0: return draw.nextInt();
            case 1: case 2: return EDGES[draw.nextInt(EDGES.length)];
            default: return draw.nextInt(14) - 1;
        }
    }

    private int call() {
        switch (draw.nextInt(14)) {
            case 0: return x.manner(any(), any(), any(), any()) ? 1 : 0;
            case 1: return x.job(any(), any(), any());
            case 2: return x.job(draw.nextInt(3), x.state(0) + 1 + draw.nextInt(9), 1 + draw.nextInt(30));
            case 3: return x.cron(any(), any(), any(), any(), any());
            case 4: return x.give(any()) ? 1 : 0;
            case 5: return x.advance(any());
            case 6: return x.request(any());
            case 7: return x.stop() ? 1 : 0;
            case 8: return x.go();
            case 9: return x.due(any());
            case 10: return x.about(any(), any());
            case 11: return x.run(any(), any());
            case 12: return x.state(any());
            default: return x.nextEnd();
        }
    }
}
