import java.util.ArrayList;
import java.util.Comparator;
import java.util.List;
import java.util.TreeMap;

/**
 * The document said a second time, with lists and objects, and as far as can be in another way: whether a job is due
 * is asked of each time anew, and nothing is kept that can be found out again.
 */
final class Model {
    static final int REFUSED = -1, NEVER = -2, LAST = 1000000;

    static final class Job {
        int number, kind, at, period, duration, priority, overlap, misfire;
        int[] sets;
        boolean known = true;
        int started, lost, missed, missedSinceStop;
    }

    static final class Request {
        final Job job;
        final int due;

        Request(Job job, int due) {
            this.job = job;
            this.due = due;
        }
    }

    static final class Run {
        final Job job;
        final int start, due;

        Run(Job job, int start, int due) {
            this.job = job;
            this.start = start;
            this.due = due;
        }

        int end() {
            return start + job.duration;
        }
    }

    private final int workers;
    private final TreeMap<Integer, Job> jobs = new TreeMap<>();
    private final List<Request> line = new ArrayList<>();
    private final List<Run> goingOn = new ArrayList<>();
    private final List<Run> history = new ArrayList<>();
    private int now;
    private boolean stopped;
    private int[] manner = {1, 0, 0, 0};

    Model(int workers) {
        this.workers = Math.min(3, Math.max(1, workers));
    }

    private static boolean within(int value, int least, int greatest) {
        return value >= least && value <= greatest;
    }

    boolean manner(int duration, int priority, int overlap, int misfire) {
        boolean fits = within(duration, 1, 200) && within(priority, 0, 9) && within(overlap, 0, 1)
                && within(misfire, 0, 2);
        if (fits) {
            manner = new int[] {duration, priority, overlap, misfire};
        }
        return fits;
    }

    int job(int kind, int at, int period) {
        if (!within(kind, 0, 2) || (kind > 0 && !within(period, 1, 2000)) || !within(at, now + 1, LAST)) {
            return REFUSED;
        }
        return add(kind, at, period, null);
    }

    int cron(int... sets) {
        int[] sizes = {10, 8, 10, 4, 7};
        for (int i = 0; i < 5; i++) {
            if (!within(sets[i], 1, (1 << sizes[i]) - 1)) {
                return REFUSED;
            }
        }
        return add(3, 0, 0, sets);
    }

    private int add(int kind, int at, int period, int[] sets) {
        int number = 0;
        while (jobs.containsKey(number)) {
            number++;
        }
        if (number == 12) {
            return REFUSED;
        }
        Job job = new Job();
        job.number = number;
        job.kind = kind;
        job.at = at;
        job.period = period;
        job.sets = sets;
        job.duration = manner[0];
        job.priority = manner[1];
        job.overlap = manner[2];
        job.misfire = manner[3];
        jobs.put(number, job);
        return number;
    }

    boolean give(int number) {
        Job job = jobs.remove(number);
        line.removeIf(request -> request.job == job);
        return job != null;
    }

    int advance(int n) {
        if (!within(n, 0, 30000)) {
            return REFUSED;
        }
        for (int i = 0; i < n && now < LAST; i++) {
            tick();
        }
        return now;
    }

    private void tick() {
        now++;
        for (Run run : goingOn) {
            if (run.end() == now && run.job.kind == 2 && !run.job.known) {
                run.job.known = true;
                run.job.at = now + run.job.period;
            }
        }
        goingOn.removeIf(run -> run.end() == now);
        for (Job job : jobs.values()) {
            if (isDue(job, now)) {
                comeDue(job);
            }
        }
        start();
    }

    private static boolean isDue(Job job, int time) {
        switch (job.kind) {
            case 0: return time == job.at;
            case 1: return time >= job.at && (time - job.at) % job.period == 0;
            case 2: return job.known && time == job.at;
            default: return cronIsDue(job.sets, time);
        }
    }

    private static boolean in(int set, int element) {
        return (set & 1 << element) != 0;
    }

    private static boolean cronIsDue(int[] sets, int time) {
        int[] f = fields(time);
        if (!in(sets[0], f[0]) || !in(sets[1], f[1]) || !in(sets[3], f[3] - 1)) {
            return false;
        }
        boolean day = in(sets[2], f[2] - 1);
        boolean weekday = in(sets[4], f[4]);
        if (Integer.bitCount(sets[2]) == 10 || Integer.bitCount(sets[4]) == 7) {
            return day && weekday;
        }
        return day || weekday;
    }

    /** Minute, hour, day, month and weekday. */
    private static int[] fields(int time) {
        int days = Math.floorDiv(time, 80);
        int ofDay = Math.floorMod(time, 80);
        int ofYear = Math.floorMod(days, 40);
        return new int[] {ofDay % 10, ofDay / 10, ofYear % 10 + 1, ofYear / 10 + 1, Math.floorMod(days, 7)};
    }

    private void comeDue(Job job) {
        boolean gave = false;
        if (stopped) {
            job.missed++;
            job.missedSinceStop++;
        } else if (waiting(job) == 3 || (job.overlap == 0 && (hasRun(job) || waiting(job) > 0))) {
            job.lost++;
        } else {
            line.add(new Request(job, now));
            gave = true;
        }
        if (job.kind == 2) {
            job.known = !gave;
            job.at = now + job.period;
        }
    }

    private int waiting(Job job) {
        return (int) line.stream().filter(request -> request.job == job).count();
    }

    private boolean hasRun(Job job) {
        return goingOn.stream().anyMatch(run -> run.job == job);
    }

    private void start() {
        while (!stopped && goingOn.size() < workers) {
            Request next = line.stream().filter(request -> !hasRun(request.job)).min(
                    Comparator.<Request>comparingInt(request -> -request.job.priority)
                    .thenComparingInt(request -> request.due)
                    .thenComparingInt(request -> request.job.number)).orElse(null);
            if (next == null) {
                return;
            }
            line.remove(next);
            Run run = new Run(next.job, now, next.due);
            goingOn.add(run);
            history.add(run);
            next.job.started++;
        }
    }

    int request(int number) {
        Job job = jobs.get(number);
        if (job == null || stopped || waiting(job) == 3) {
            return REFUSED;
        }
        Request made = new Request(job, now);
        line.add(made);
        start();
        return line.contains(made) ? 0 : 1;
    }

    boolean stop() {
        boolean was = stopped;
        stopped = true;
        return !was;
    }

    int go() {
        if (!stopped) {
            return REFUSED;
        }
        stopped = false;
        int requests = 0;
        for (Job job : jobs.values()) {
            int wanted = job.misfire == 2 ? job.missedSinceStop : Math.min(job.misfire, job.missedSinceStop);
            job.missedSinceStop = 0;
            for (int i = 0; i < wanted && waiting(job) < 3; i++) {
                line.add(new Request(job, now));
                requests++;
            }
        }
        start();
        return requests;
    }

    int due(int number) {
        Job job = jobs.get(number);
        if (job == null) {
            return REFUSED;
        }
        for (int time = now + 1; time <= LAST; time++) {
            if (isDue(job, time)) {
                return time;
            }
        }
        return NEVER;
    }

    int about(int number, int what) {
        Job job = jobs.get(number);
        if (job == null || !within(what, 0, 5)) {
            return REFUSED;
        }
        return new int[] {job.started, job.lost, job.missed, waiting(job), hasRun(job) ? 1 : 0, job.kind}[what];
    }

    int run(int k, int what) {
        if (!within(k, 0, 15) || k >= history.size() || !within(what, 0, 2)) {
            return REFUSED;
        }
        Run run = history.get(history.size() - 1 - k);
        return new int[] {run.job.number, run.start, run.due}[what];
    }

    int state(int what) {
        if (!within(what, 0, 9)) {
            return REFUSED;
        }
        if (what >= 5) {
            return fields(now)[what - 5];
        }
        return new int[] {now, workers - goingOn.size(), line.size(), history.size(), stopped ? 1 : 0}[what];
    }

    int nextEnd() {
        return goingOn.stream().mapToInt(Run::end).min().orElse(NEVER);
    }
}
