/** Promise 2: submit. */
public final class SubmitTest {
    private static final int BAD_SIZE = ProcessorSharing.BAD_SIZE;
    private static final int BAD_TIME = ProcessorSharing.BAD_TIME;
    private static final int FULL = ProcessorSharing.FULL;
    private static final int NOT_YET = ProcessorSharing.NOT_YET;

    public static void main(String[] args) {
        Due due = new Due();
        looksAtSize(due);
        looksAtTime(due);
        numbersGoUpToFull(due);
        endedJobsStillCount(due);
        testsComeInOrder(due);
        refusedCallsChangeNothing(due);
        arrivalIsCountedFromThePresentTick(due);
        due.end();
    }

    private static void looksAtSize(Due due) {
        ProcessorSharing x = new ProcessorSharing();
        int[] wrong = {0, -1, 100001, Integer.MIN_VALUE, Integer.MAX_VALUE};
        for (int size : wrong) {
            due.is("submit(" + size + ", 0)", x.submit(size, 0), BAD_SIZE);
        }
        due.is("submit(1, 0)", x.submit(1, 0), 0);
        due.is("submit(100000, 0)", x.submit(100000, 0), 1);
    }

    private static void looksAtTime(Due due) {
        ProcessorSharing x = new ProcessorSharing();
        int[] wrong = {-1, 1001, Integer.MIN_VALUE, Integer.MAX_VALUE};
        for (int after : wrong) {
            due.is("submit(5, " + after + ")", x.submit(5, after), BAD_TIME);
        }
        due.is("submit(5, 0)", x.submit(5, 0), 0);
        due.is("submit(5, 1000)", x.submit(5, 1000), 1);
    }

    private static void numbersGoUpToFull(Due due) {
        ProcessorSharing x = new ProcessorSharing();
        for (int job = 0; job < 24; job++) {
            due.is("submit as job " + job, x.submit(100, 7), job);
        }
        due.is("submit as 25th", x.submit(100, 7), FULL);
        due.is("submit as 25th again", x.submit(1, 0), FULL);
    }

    private static void endedJobsStillCount(Due due) {
        ProcessorSharing x = new ProcessorSharing();
        for (int job = 0; job < 23; job++) {
            x.submit(1, 0);
        }
        x.run(3);
        due.is("state(22)", x.state(22), 3);
        due.is("submit as 24th", x.submit(1, 0), 23);
        due.is("cancel(23)", x.cancel(23), 0);
        due.is("submit when all jobs have ended", x.submit(1, 0), FULL);
    }

    private static void testsComeInOrder(Due due) {
        ProcessorSharing x = new ProcessorSharing();
        due.is("submit(0, -1)", x.submit(0, -1), BAD_SIZE);
        for (int job = 0; job < 24; job++) {
            x.submit(1, 1);
        }
        due.is("submit(0, 1001) when full", x.submit(0, 1001), BAD_SIZE);
        due.is("submit(0, 0) when full", x.submit(0, 0), BAD_SIZE);
        due.is("submit(1, 1001) when full", x.submit(1, 1001), BAD_TIME);
        due.is("submit(1, 0) when full", x.submit(1, 0), FULL);
    }

    private static void refusedCallsChangeNothing(Due due) {
        ProcessorSharing x = new ProcessorSharing();
        x.submit(1000, 0);
        x.run(1);
        x.submit(0, 0);
        x.submit(5, 1001);
        due.server(x, 1, 1, 0);
        due.job(x, 0, 2, 840, 0, NOT_YET);
        due.noJob(x, 1);
        due.is("submit after refused ones", x.submit(9, 3), 1);
        for (int job = 2; job < 24; job++) {
            x.submit(9, 500);
        }
        x.submit(77, 0);
        due.is("run(5)", x.run(5), 2);
        due.job(x, 0, 3, 1000, 0, 1);
        due.job(x, 1, 3, 9, 4, 4);
        due.job(x, 23, 0, 0, NOT_YET, NOT_YET);
        due.noJob(x, 24);
    }

    private static void arrivalIsCountedFromThePresentTick(Due due) {
        ProcessorSharing x = new ProcessorSharing();
        x.run(7);
        x.submit(1, 0);
        x.submit(1, 1);
        x.submit(1, 1000);
        due.is("run(1)", x.run(1), 1);
        due.job(x, 0, 3, 1, 7, 7);
        due.job(x, 1, 0, 0, NOT_YET, NOT_YET);
        due.is("run(999)", x.run(999), 1);
        due.job(x, 1, 3, 1, 8, 8);
        due.job(x, 2, 0, 0, NOT_YET, NOT_YET);
        due.is("run(1)", x.run(1), 1);
        due.job(x, 2, 3, 1, 1007, 1007);
    }
}
