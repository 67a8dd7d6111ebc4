/** Promise 5: clear. */
public final class ClearTest {
    private static final int NOT_YET = ProcessorSharing.NOT_YET;

    public static void main(String[] args) {
        Due due = new Due();
        dropsJobsOfEveryState(due);
        nothingOldComesBack(due);
        makesRoomWhenFull(due);
        clearsAnEmptyServer(due);
        due.end();
    }

    /** Jobs that are not arrived, in the line, served, finished and gone. */
    private static ProcessorSharing filled() {
        ProcessorSharing x = new ProcessorSharing();
        x.submit(1, 0);
        x.submit(50000, 0);
        for (int job = 2; job < 12; job++) {
            x.submit(10000, 0);
        }
        x.submit(10, 3);
        x.run(2);
        x.cancel(1);
        return x;
    }

    private static void dropsJobsOfEveryState(Due due) {
        ProcessorSharing x = filled();
        due.server(x, 2, 7, 3);
        x.clear();
        due.server(x, 2, 0, 0);
        for (int job = 0; job < 24; job++) {
            due.noJob(x, job);
            due.is("cancel(" + job + ")", x.cancel(job), ProcessorSharing.NO_JOB);
        }
        due.is("run(5000)", x.run(5000), 0);
        due.server(x, 5002, 0, 0);
    }

    private static void nothingOldComesBack(Due due) {
        ProcessorSharing x = filled();
        x.clear();
        for (int job = 0; job < 13; job++) {
            due.is("submit as job " + job, x.submit(900, 2), job);
            due.job(x, job, 0, 0, NOT_YET, NOT_YET);
        }
        due.server(x, 2, 0, 0);
        x.run(2);
        due.server(x, 4, 0, 0);
        due.is("run(1)", x.run(1), 0);
        due.server(x, 5, 8, 5);
        due.job(x, 0, 2, 105, 4, NOT_YET);
        due.job(x, 12, 1, 0, NOT_YET, NOT_YET);
    }

    private static void makesRoomWhenFull(Due due) {
        ProcessorSharing x = new ProcessorSharing();
        for (int job = 0; job < 24; job++) {
            x.submit(10, 0);
        }
        due.is("submit when full", x.submit(10, 0), ProcessorSharing.FULL);
        x.clear();
        for (int job = 0; job < 24; job++) {
            due.is("submit after clear", x.submit(10, 0), job);
        }
        due.is("submit when full again", x.submit(10, 0), ProcessorSharing.FULL);
    }

    private static void clearsAnEmptyServer(Due due) {
        ProcessorSharing x = new ProcessorSharing();
        x.clear();
        due.server(x, 0, 0, 0);
        x.run(9);
        x.clear();
        x.clear();
        due.server(x, 9, 0, 0);
        due.is("submit(1, 0)", x.submit(1, 0), 0);
        x.run(1);
        due.job(x, 0, 3, 1, 9, 9);
    }
}
