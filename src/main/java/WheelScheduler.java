/** A scheduler of jobs on a small calendar; the promises it keeps are numbered in ../shared/DOC.md. */
public final class WheelScheduler {
    public static final int REFUSED = -1, NEVER = -2;

    private static final int LAST_TIME = 1000000;
    private static final int MOST_TICKS = 30000;
    private static final int MOST_WORKERS = 3;
    private static final int MOST_JOBS = 12;
    private static final int MOST_WAITING = 3;
    private static final int REQUEST_SLOTS = 36;
    private static final int RUNS_KEPT = 16;
    private static final int NO_JOB = -1;

    private static final int ONCE = 0, EVERY = 1, AFTER = 2, CRON = 3;
    private static final int LONGEST_DURATION = 200;
    private static final int HIGHEST_PRIORITY = 9;
    private static final int LONGEST_PERIOD = 2000;
    private static final int MISFIRE_ONE = 1, MISFIRE_ALL = 2;

    private static final int HOUR_TICKS = 10;
    private static final int DAY_HOURS = 8;
    private static final int DAY_TICKS = 80;
    private static final int MONTH_DAYS = 10;
    private static final int MONTH_TICKS = 800;
    private static final int YEAR_MONTHS = 4;
    private static final int WEEK_DAYS = 7;
    /** A year of 40 days and a week of 7 meet again after 280 days, so every CRON job is due within so many ticks. */
    private static final int CALENDAR_CYCLE = 22400;

    private static final int ALL_MINUTES = 1023;
    private static final int ALL_HOURS = 255;
    private static final int ALL_DAYS = 1023;
    private static final int ALL_MONTHS = 15;
    private static final int ALL_WEEKDAYS = 127;

    private final int workers;
    private int now = 0;
    private boolean stopped = false;
    private int runsStarted = 0;

    private int newDuration = 1;
    private int newPriority = 0;
    private int newOverlap = 0;
    private int newMisfire = 0;

    private final boolean[] made = new boolean[MOST_JOBS];
    private final int[] kindOf = new int[MOST_JOBS];
    private final int[] durationOf = new int[MOST_JOBS];
    private final int[] priorityOf = new int[MOST_JOBS];
    private final int[] overlapOf = new int[MOST_JOBS];
    private final int[] misfireOf = new int[MOST_JOBS];
    private final int[] periodOf = new int[MOST_JOBS];
    private final int[] minutesOf = new int[MOST_JOBS];
    private final int[] hoursOf = new int[MOST_JOBS];
    private final int[] daysOf = new int[MOST_JOBS];
    private final int[] monthsOf = new int[MOST_JOBS];
    private final int[] weekdaysOf = new int[MOST_JOBS];

    /** May lie beyond LAST_TIME; NEVER stands for "not again" and, of AFTER jobs, for "not known". */
    private final int[] nextDueOf = new int[MOST_JOBS];
    private final int[] startedOf = new int[MOST_JOBS];
    private final int[] lostOf = new int[MOST_JOBS];
    private final int[] missedOf = new int[MOST_JOBS];
    private final int[] missedSinceStopOf = new int[MOST_JOBS];
    private final int[] waitingOf = new int[MOST_JOBS];
    /** Each job has MOST_WAITING slots in a row; requests come in the order of time, so the first is the earliest due. */
    private final int[] requestDue = new int[REQUEST_SLOTS];

    private final boolean[] workerBusy = new boolean[MOST_WORKERS];
    /** NO_JOB once the job was given up: its number may then belong to another job. */
    private final int[] workerJob = new int[MOST_WORKERS];
    private final int[] workerEnd = new int[MOST_WORKERS];

    private final int[] keptJob = new int[RUNS_KEPT];
    private final int[] keptStart = new int[RUNS_KEPT];
    private final int[] keptDue = new int[RUNS_KEPT];

    public WheelScheduler(int workers) {
        this.workers = workers < 1 ? 1 : workers > MOST_WORKERS ? MOST_WORKERS : workers;
    }

    public boolean manner(int duration, int priority, int overlap, int misfire) {
        if (duration < 1 || duration > LONGEST_DURATION || priority < 0 || priority > HIGHEST_PRIORITY) {
            return false;
        }
        if (overlap < 0 || overlap > 1 || misfire < 0 || misfire > MISFIRE_ALL) {
            return false;
        }
        newDuration = duration;
        newPriority = priority;
        newOverlap = overlap;
        newMisfire = misfire;
        return true;
    }

    public int job(int kind, int at, int period) {
        if (kind != ONCE && kind != EVERY && kind != AFTER) {
            return REFUSED;
        }
        if (kind != ONCE && (period < 1 || period > LONGEST_PERIOD)) {
            return REFUSED;
        }
        if (at <= now || at > LAST_TIME) {
            return REFUSED;
        }
        int job = makeJob(kind);
        if (job == NO_JOB) {
            return REFUSED;
        }
        periodOf[job] = period;
        nextDueOf[job] = at;
        return job;
    }

    public int cron(int minutes, int hours, int days, int months, int weekdays) {
        boolean setsFit = isSetOf(minutes, ALL_MINUTES) && isSetOf(hours, ALL_HOURS) && isSetOf(days, ALL_DAYS)
                && isSetOf(months, ALL_MONTHS) && isSetOf(weekdays, ALL_WEEKDAYS);
        if (!setsFit) {
            return REFUSED;
        }
        int job = makeJob(CRON);
        if (job == NO_JOB) {
            return REFUSED;
        }
        minutesOf[job] = minutes;
        hoursOf[job] = hours;
        daysOf[job] = days;
        monthsOf[job] = months;
        weekdaysOf[job] = weekdays;
        nextDueOf[job] = nextCronTime(job);
        return job;
    }

    public boolean give(int job) {
        if (!exists(job)) {
            return false;
        }
        made[job] = false;
        waitingOf[job] = 0;
        for (int worker = 0; worker < MOST_WORKERS; worker++) {
            if (workerJob[worker] == job) {
                workerJob[worker] = NO_JOB;
            }
        }
        return true;
    }

    public int advance(int n) {
        if (n < 0 || n > MOST_TICKS) {
            return REFUSED;
        }
        for (int tick = 0; tick < n && now < LAST_TIME; tick++) {
            now++;
            endRuns();
            takeDueJobs();
            startRuns();
        }
        return now;
    }

    public int request(int job) {
        if (!exists(job) || stopped) {
            return REFUSED;
        }
        if (!addRequest(job)) {
            return REFUSED;
        }
        // Whatever could start has started before, so a run of this job that starts now is of this request.
        int startedBefore = startedOf[job];
        startRuns();
        return startedOf[job] > startedBefore ? 1 : 0;
    }

    public boolean stop() {
        if (stopped) {
            return false;
        }
        stopped = true;
        return true;
    }

    public int go() {
        if (!stopped) {
            return REFUSED;
        }
        stopped = false;
        int requests = 0;
        for (int job = 0; job < MOST_JOBS; job++) {
            if (made[job]) {
                requests += requestMissed(job);
            }
        }
        startRuns();
        return requests;
    }

    public int due(int job) {
        if (!exists(job)) {
            return REFUSED;
        }
        return nextDueOf[job] > LAST_TIME ? NEVER : nextDueOf[job];
    }

    public int about(int job, int what) {
        if (!exists(job)) {
            return REFUSED;
        }
        switch (what) {
            case 0: return startedOf[job];
            case 1: return lostOf[job];
            case 2: return missedOf[job];
            case 3: return waitingOf[job];
            case 4: return hasRun(job) ? 1 : 0;
            case 5: return kindOf[job];
            default: return REFUSED;
        }
    }

    public int run(int k, int what) {
        if (k < 0 || k >= RUNS_KEPT || k >= runsStarted) {
            return REFUSED;
        }
        int slot = (runsStarted - 1 - k) % RUNS_KEPT;
        switch (what) {
            case 0: return keptJob[slot];
            case 1: return keptStart[slot];
            case 2: return keptDue[slot];
            default: return REFUSED;
        }
    }

    public int state(int what) {
        switch (what) {
            case 0: return now;
            case 1: return countFreeWorkers();
            case 2: return countWaiting();
            case 3: return runsStarted;
            case 4: return stopped ? 1 : 0;
            case 5: return minuteAt(now);
            case 6: return hourAt(now);
            case 7: return dayIndexAt(now) + 1;
            case 8: return monthIndexAt(now) + 1;
            case 9: return weekdayAt(now);
            default: return REFUSED;
        }
    }

    public int nextEnd() {
        int earliest = NEVER;
        for (int worker = 0; worker < MOST_WORKERS; worker++) {
            if (workerBusy[worker] && (earliest == NEVER || workerEnd[worker] < earliest)) {
                earliest = workerEnd[worker];
            }
        }
        return earliest;
    }

    private boolean exists(int job) {
        return job >= 0 && job < MOST_JOBS && made[job];
    }

    private boolean isSetOf(int set, int all) {
        return set != 0 && (set & ~all) == 0;
    }

    private int makeJob(int kind) {
        for (int job = 0; job < MOST_JOBS; job++) {
            if (!made[job]) {
                resetJob(job, kind);
                return job;
            }
        }
        return NO_JOB;
    }

    /** A number may have been another job's before, so nothing of that one may be left. */
    private void resetJob(int job, int kind) {
        made[job] = true;
        kindOf[job] = kind;
        durationOf[job] = newDuration;
        priorityOf[job] = newPriority;
        overlapOf[job] = newOverlap;
        misfireOf[job] = newMisfire;
        startedOf[job] = 0;
        lostOf[job] = 0;
        missedOf[job] = 0;
        missedSinceStopOf[job] = 0;
        waitingOf[job] = 0;
    }

    private void endRuns() {
        for (int worker = 0; worker < MOST_WORKERS; worker++) {
            if (workerBusy[worker] && workerEnd[worker] <= now) {
                workerBusy[worker] = false;
                learnFromEnd(workerJob[worker]);
            }
        }
    }

    private void learnFromEnd(int job) {
        if (exists(job) && kindOf[job] == AFTER && nextDueOf[job] == NEVER) {
            nextDueOf[job] = now + periodOf[job];
        }
    }

    private void takeDueJobs() {
        for (int job = 0; job < MOST_JOBS; job++) {
            if (made[job] && nextDueOf[job] == now) {
                takeDueJob(job);
            }
        }
    }

    private void takeDueJob(int job) {
        boolean requested = false;
        if (stopped) {
            missedOf[job]++;
            missedSinceStopOf[job]++;
        } else if (overlapForbids(job)) {
            lostOf[job]++;
        } else {
            requested = addRequest(job);
            lostOf[job] += requested ? 0 : 1;
        }
        switch (kindOf[job]) {
            case EVERY: nextDueOf[job] = now + periodOf[job]; break;
            case AFTER: nextDueOf[job] = requested ? NEVER : now + periodOf[job]; break;
            case CRON: nextDueOf[job] = nextCronTime(job); break;
            default: nextDueOf[job] = NEVER; break;
        }
    }

    private boolean overlapForbids(int job) {
        return overlapOf[job] == 0 && (waitingOf[job] > 0 || hasRun(job));
    }

    private boolean addRequest(int job) {
        if (waitingOf[job] >= MOST_WAITING) {
            return false;
        }
        requestDue[job * MOST_WAITING + waitingOf[job]] = now;
        waitingOf[job]++;
        return true;
    }

    private int takeEarliestRequest(int job) {
        int first = job * MOST_WAITING;
        int due = requestDue[first];
        for (int slot = first; slot < first + MOST_WAITING - 1; slot++) {
            requestDue[slot] = requestDue[slot + 1];
        }
        waitingOf[job]--;
        return due;
    }

    private int requestMissed(int job) {
        int missed = missedSinceStopOf[job];
        missedSinceStopOf[job] = 0;
        int wanted = 0;
        if (misfireOf[job] == MISFIRE_ONE && missed > 0) {
            wanted = 1;
        } else if (misfireOf[job] == MISFIRE_ALL) {
            wanted = missed;
        }
        int requests = 0;
        while (requests < wanted && addRequest(job)) {
            requests++;
        }
        return requests;
    }

    private void startRuns() {
        if (stopped) {
            return;
        }
        for (int worker = 0; worker < workers; worker++) {
            if (!workerBusy[worker]) {
                int job = nextJobToStart();
                if (job == NO_JOB) {
                    return;
                }
                startRun(worker, job);
            }
        }
    }

    private int nextJobToStart() {
        int best = NO_JOB;
        for (int job = 0; job < MOST_JOBS; job++) {
            if (waitingOf[job] > 0 && !hasRun(job) && (best == NO_JOB || goesBefore(job, best))) {
                best = job;
            }
        }
        return best;
    }

    private boolean goesBefore(int job, int other) {
        if (priorityOf[job] != priorityOf[other]) {
            return priorityOf[job] > priorityOf[other];
        }
        return requestDue[job * MOST_WAITING] < requestDue[other * MOST_WAITING];
    }

    private void startRun(int worker, int job) {
        int slot = runsStarted % RUNS_KEPT;
        keptJob[slot] = job;
        keptStart[slot] = now;
        keptDue[slot] = takeEarliestRequest(job);
        runsStarted++;
        startedOf[job]++;
        workerBusy[worker] = true;
        workerJob[worker] = job;
        workerEnd[worker] = now + durationOf[job];
    }

    private boolean hasRun(int job) {
        for (int worker = 0; worker < MOST_WORKERS; worker++) {
            if (workerBusy[worker] && workerJob[worker] == job) {
                return true;
            }
        }
        return false;
    }

    private int countFreeWorkers() {
        int free = 0;
        for (int worker = 0; worker < workers; worker++) {
            free += workerBusy[worker] ? 0 : 1;
        }
        return free;
    }

    private int countWaiting() {
        int waiting = 0;
        for (int job = 0; job < MOST_JOBS; job++) {
            waiting += waitingOf[job];
        }
        return waiting;
    }

    private int nextCronTime(int job) {
        for (int ahead = 1; ahead <= CALENDAR_CYCLE; ahead++) {
            if (cronFits(job, now + ahead)) {
                return now + ahead;
            }
        }
        return NEVER;
    }

    private boolean cronFits(int job, int time) {
        boolean clockFits = (minutesOf[job] >> minuteAt(time) & 1) == 1
                && (hoursOf[job] >> hourAt(time) & 1) == 1
                && (monthsOf[job] >> monthIndexAt(time) & 1) == 1;
        if (!clockFits) {
            return false;
        }
        boolean dayFits = (daysOf[job] >> dayIndexAt(time) & 1) == 1;
        boolean weekdayFits = (weekdaysOf[job] >> weekdayAt(time) & 1) == 1;
        boolean bothMustFit = daysOf[job] == ALL_DAYS || weekdaysOf[job] == ALL_WEEKDAYS;
        return bothMustFit ? dayFits && weekdayFits : dayFits || weekdayFits;
    }

    private int minuteAt(int time) {
        return time % HOUR_TICKS;
    }

    private int hourAt(int time) {
        return time / HOUR_TICKS % DAY_HOURS;
    }

    private int dayIndexAt(int time) {
        return time / DAY_TICKS % MONTH_DAYS;
    }

    private int monthIndexAt(int time) {
        return time / MONTH_TICKS % YEAR_MONTHS;
    }

    private int weekdayAt(int time) {
        return time / DAY_TICKS % WEEK_DAYS;
    }
}
