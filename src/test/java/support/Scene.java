/** Servers in a state that many tests begin with. */
final class Scene {
    static final int FINISHED = 0;
    static final int GONE = 1;
    static final int SERVED = 2;
    static final int LAST_SERVED = 8;
    static final int IN_LINE = 9;
    static final int LAST_IN_LINE = 11;
    static final int NOT_ARRIVED = 12;
    static final int JOBS = 13;

    private Scene() {
    }

    static ProcessorSharing withJobs(int count, int size, int after) {
        ProcessorSharing x = new ProcessorSharing();
        submitMore(x, count, size, after);
        return x;
    }

    static void submitMore(ProcessorSharing x, int count, int size, int after) {
        for (int i = 0; i < count; i++) {
            x.submit(size, after);
        }
    }

    /**
     * Two ticks are worked, and there is a job of every state: 0 has finished, 1 was served and is
     * gone, 2 to 8 are served, 9 to 11 stand in the line, 12 arrives in tick 3.
     */
    static ProcessorSharing ofEveryState() {
        ProcessorSharing x = new ProcessorSharing();
        x.submit(1, 0);
        x.submit(50000, 0);
        submitMore(x, 10, 10000, 0);
        x.submit(10, 3);
        x.run(2);
        x.cancel(GONE);
        return x;
    }

    /** As above, and 11 jobs more that arrive late: there are 24. */
    static ProcessorSharing ofEveryStateAndFull() {
        ProcessorSharing x = ofEveryState();
        submitMore(x, 24 - JOBS, 700, 40);
        return x;
    }
}
