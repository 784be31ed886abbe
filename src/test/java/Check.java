/** Counts and prints the answers that are not the ones that are due. */
final class Check {
    private static int wrong = 0;

    private Check() {
    }

    static void same(String call, long got, long want) {
        if (got != want) {
            wrong++;
            System.out.println(call + " answered " + got + ", due is " + want);
        }
    }

    static void yes(String call, boolean got) {
        same(call, got ? 1 : 0, 1);
    }

    static void no(String call, boolean got) {
        same(call, got ? 1 : 0, 0);
    }

    /** All that can be asked of an object without changing it, to see that a refused call changed nothing. */
    static String picture(WheelScheduler x) {
        StringBuilder text = new StringBuilder();
        for (int what = 0; what <= 9; what++) {
            text.append(x.state(what)).append(' ');
        }
        text.append(x.nextEnd());
        for (int job = 0; job < 12; job++) {
            text.append('\n').append(job).append(": ").append(x.due(job));
            for (int what = 0; what <= 5; what++) {
                text.append(' ').append(x.about(job, what));
            }
        }
        for (int k = 0; k < 16; k++) {
            text.append("\nrun");
            for (int what = 0; what <= 2; what++) {
                text.append(' ').append(x.run(k, what));
            }
        }
        return text.toString();
    }

    /** As many calls of advance as are needed, at most 34: the last time is 1000000. */
    static void advanceTo(WheelScheduler x, int time) {
        int now = x.state(0);
        for (int i = 0; i < 34 && now < time; i++) {
            now = x.advance(Math.min(30000, time - now));
        }
        yes("time " + time + " is reached", x.state(0) >= time);
    }

    static void unchanged(String calls, String before, WheelScheduler x) {
        String after = picture(x);
        if (!before.equals(after)) {
            wrong++;
            System.out.println(calls + " changed something. Before:\n" + before + "\nAfter:\n" + after);
        }
    }

    static void end() {
        System.out.println(wrong == 0 ? "all answers are as due" : wrong + " answers are not as due");
        if (wrong != 0) {
            System.exit(1);
        }
    }
}
