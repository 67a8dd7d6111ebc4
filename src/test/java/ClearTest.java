/** Promise 5: clear. */
public final class ClearTest {
    private static final int NO_JOB = ProcessorSharing.NO_JOB;
    private static final int NOT_YET = ProcessorSharing.NOT_YET;

    public static void main(String[] args) {
        Due due = new Due();
        dropsJobsOfEveryState(due);
        droppedJobsAreWorkedNoMore(due);
        servedAndLineAreEmpty(due);
        nothingOldComesBack(due);
        nextOneGetsNumberZero(due);
        makesRoomWhenFull(due);
        presentTickStays(due);
        clearsAnEmptyServer(due);
        due.end();
    }

    private static void dropsJobsOfEveryState(Due due) {
        due.says("Drops all jobs");
        ProcessorSharing x = Scene.ofEveryState();
        x.clear();
        for (int job = 0; job < 24; job++) {
            due.noJob(x, job);
            due.is("cancel(" + job + ")", x.cancel(job), NO_JOB);
        }
    }

    private static void droppedJobsAreWorkedNoMore(Due due) {
        due.says("Drops all jobs");
        ProcessorSharing x = Scene.ofEveryState();
        x.clear();
        due.is("run(5000)", x.run(5000), 0);
        due.server(x, 5002, 0, 0);
        ProcessorSharing y = Scene.ofEveryState();
        y.clear();
        y.submit(10000, 0);
        due.is("run(2)", y.run(2), 0);
        due.server(y, 4, 1, 0);
        due.job(y, 0, 2, 1680, 2, NOT_YET);
    }

    private static void servedAndLineAreEmpty(Due due) {
        due.says("Drops all jobs");
        ProcessorSharing x = Scene.ofEveryState();
        due.server(x, 2, 7, 3);
        x.clear();
        due.server(x, 2, 0, 0);
    }

    private static void nothingOldComesBack(Due due) {
        due.says("Drops all jobs");
        ProcessorSharing x = Scene.ofEveryState();
        x.clear();
        for (int job = 0; job < Scene.JOBS; job++) {
            due.is("submit as job " + job, x.submit(900, 2), job);
            due.job(x, job, 0, 0, NOT_YET, NOT_YET);
        }
        due.noJob(x, Scene.JOBS);
        due.server(x, 2, 0, 0);
        x.run(2);
        due.server(x, 4, 0, 0);
        due.is("run(1)", x.run(1), 0);
        due.server(x, 5, 8, 5);
        due.job(x, 0, 2, 105, 4, NOT_YET);
        due.job(x, 12, 1, 0, NOT_YET, NOT_YET);
    }

    private static void nextOneGetsNumberZero(Due due) {
        due.says("the next one gets number 0");
        int[] counts = {0, 1, 2, 23, 24};
        for (int count : counts) {
            ProcessorSharing x = Scene.withJobs(count, 10, 0);
            x.clear();
            due.is("submit after " + count + " jobs and clear", x.submit(10, 0), 0);
            due.is("submit", x.submit(10, 0), 1);
            due.noJob(x, 2);
            x.clear();
            due.is("submit after a second clear", x.submit(10, 0), 0);
        }
    }

    private static void makesRoomWhenFull(Due due) {
        due.says("Drops all jobs");
        ProcessorSharing x = Scene.ofEveryStateAndFull();
        due.is("submit when full", x.submit(10, 0), ProcessorSharing.FULL);
        x.clear();
        for (int job = 0; job < 24; job++) {
            due.is("submit after clear", x.submit(10, 0), job);
        }
        due.is("submit when full again", x.submit(10, 0), ProcessorSharing.FULL);
    }

    private static void presentTickStays(Due due) {
        due.says("The present tick stays.");
        int[] ticks = {0, 1, 777, 5000};
        for (int tick : ticks) {
            ProcessorSharing x = Scene.withJobs(3, 400, 0);
            x.run(tick);
            x.clear();
            due.is("now()", x.now(), tick);
            x.submit(1, 4);
            due.is("run(5)", x.run(5), 1);
            due.job(x, 0, 3, 1, tick + 4, tick + 4);
        }
    }

    private static void clearsAnEmptyServer(Due due) {
        due.says("Drops all jobs; the next one gets number 0. The present tick stays.");
        ProcessorSharing x = new ProcessorSharing();
        x.clear();
        due.server(x, 0, 0, 0);
        x.run(9);
        x.clear();
        x.clear();
        due.server(x, 9, 0, 0);
        due.is("submit(1, 0)", x.submit(1, 0), 0);
        x.run(1);
        due.job(x, 0, 3, 1, 9, 9);
    }
}
