/** A server that shares its work equally among the jobs it serves. */
public final class ProcessorSharing {
    public static final int BAD_SIZE = -1;
    public static final int BAD_TIME = -2;
    public static final int FULL = -3;
    public static final int NO_JOB = -4;
    public static final int NOT_YET = -5;

    private static final int MOST_JOBS = 24;
    private static final int MOST_SERVED = 8;
    private static final int MOST_SIZE = 100000;
    private static final int MOST_AFTER = 1000;
    private static final int MOST_TICKS = 5000;
    private static final int UNITS_PER_TICK = 840;

    // These are the answers of state(), so their values are not free.
    private static final int NOT_ARRIVED = 0;
    private static final int IN_LINE = 1;
    private static final int SERVED = 2;
    private static final int FINISHED = 3;
    private static final int GONE = 4;

    private static final int NOBODY = -1;

    // Each array has one place for each job, at the job's number.
    private final int[] sizes = new int[MOST_JOBS];
    private final int[] arrivalTicks = new int[MOST_JOBS];
    private final int[] states = new int[MOST_JOBS];
    private final int[] unitsHad = new int[MOST_JOBS];
    private final int[] admissionTicks = new int[MOST_JOBS];
    private final int[] finishTicks = new int[MOST_JOBS];

    private int jobCount;
    private int presentTick;

    public ProcessorSharing() {
        jobCount = 0;
        presentTick = 0;
    }

    public int submit(int size, int after) {
        if (size < 1 || size > MOST_SIZE) {
            return BAD_SIZE;
        }
        if (after < 0 || after > MOST_AFTER) {
            return BAD_TIME;
        }
        // Finished and gone jobs keep their numbers, so they count here too.
        if (jobCount >= MOST_JOBS) {
            return FULL;
        }
        int job = jobCount;
        sizes[job] = size;
        arrivalTicks[job] = presentTick + after;
        states[job] = NOT_ARRIVED;
        unitsHad[job] = 0;
        admissionTicks[job] = NOT_YET;
        finishTicks[job] = NOT_YET;
        jobCount++;
        return job;
    }

    public int cancel(int job) {
        if (!isJob(job)) {
            return NO_JOB;
        }
        if (states[job] == FINISHED || states[job] == GONE) {
            return NOT_YET;
        }
        states[job] = GONE;
        return unitsHad[job];
    }

    public int run(int n) {
        int ticks = n > MOST_TICKS ? MOST_TICKS : n;
        int ended = 0;
        for (int i = 0; i < ticks; i++) {
            ended += workOneTick();
        }
        return ended;
    }

    public void clear() {
        jobCount = 0;
    }

    public int now() {
        return presentTick;
    }

    public int state(int job) {
        return isJob(job) ? states[job] : NO_JOB;
    }

    public int had(int job) {
        return isJob(job) ? unitsHad[job] : NO_JOB;
    }

    public int admitted(int job) {
        return isJob(job) ? admissionTicks[job] : NO_JOB;
    }

    public int finished(int job) {
        return isJob(job) ? finishTicks[job] : NO_JOB;
    }

    public int served() {
        return countInState(SERVED);
    }

    public int waiting() {
        return countInState(IN_LINE);
    }

    private boolean isJob(int job) {
        return job >= 0 && job < jobCount;
    }

    private int countInState(int wanted) {
        int count = 0;
        for (int job = 0; job < jobCount; job++) {
            if (states[job] == wanted) {
                count++;
            }
        }
        return count;
    }

    private int workOneTick() {
        takeArrivals();
        admitFromLine();
        int ended = shareWork();
        presentTick++;
        return ended;
    }

    private void takeArrivals() {
        for (int job = 0; job < jobCount; job++) {
            if (states[job] == NOT_ARRIVED && arrivalTicks[job] == presentTick) {
                states[job] = IN_LINE;
            }
        }
    }

    private void admitFromLine() {
        int room = MOST_SERVED - countInState(SERVED);
        for (int i = 0; i < room; i++) {
            int job = frontOfLine();
            if (job == NOBODY) {
                return;
            }
            states[job] = SERVED;
            admissionTicks[job] = presentTick;
        }
    }

    // The line is not held anywhere: its order is that of the arrival ticks and,
    // within one tick, that of the numbers, so a job taken away leaves no gap to close.
    private int frontOfLine() {
        int front = NOBODY;
        for (int job = 0; job < jobCount; job++) {
            if (states[job] == IN_LINE
                    && (front == NOBODY || arrivalTicks[job] < arrivalTicks[front])) {
                front = job;
            }
        }
        return front;
    }

    private int shareWork() {
        int sharers = countInState(SERVED);
        if (sharers == 0) {
            return 0;
        }
        int share = UNITS_PER_TICK / sharers;
        int ended = 0;
        for (int job = 0; job < jobCount; job++) {
            if (states[job] == SERVED) {
                giveWork(job, share);
                ended += states[job] == FINISHED ? 1 : 0;
            }
        }
        return ended;
    }

    private void giveWork(int job, int share) {
        if (sizes[job] - unitsHad[job] > share) {
            unitsHad[job] += share;
            return;
        }
        unitsHad[job] = sizes[job];
        states[job] = FINISHED;
        finishTicks[job] = presentTick;
    }
}
