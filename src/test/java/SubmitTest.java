/** Promise 2: submit. */
public final class SubmitTest {
    private static final int BAD_SIZE = ProcessorSharing.BAD_SIZE;
    private static final int BAD_TIME = ProcessorSharing.BAD_TIME;
    private static final int FULL = ProcessorSharing.FULL;
    private static final int NOT_YET = ProcessorSharing.NOT_YET;

    public static void main(String[] args) {
        Due due = new Due();
        arrivalIsCountedFromThePresentTick(due);
        afterZeroIsThePresentTick(due);
        sizeTooSmall(due);
        sizeTooLarge(due);
        timeTooSmall(due);
        timeTooLarge(due);
        numbersGoUpToFull(due);
        jobsOfEveryStateCountForFull(due);
        finishedJobsCountForFull(due);
        goneJobsCountForFull(due);
        sizeIsTestedBeforeTime(due);
        sizeIsTestedBeforeFull(due);
        timeIsTestedBeforeFull(due);
        badSizeChangesNothing(due);
        badTimeChangesNothing(due);
        fullChangesNothing(due);
        refusedCallsUseNoNumber(due);
        endedJobsKeepTheirNumbers(due);
        due.end();
    }

    private static void arrivalIsCountedFromThePresentTick(Due due) {
        due.says("Submits a job that arrives 'after' ticks from the present tick");
        ProcessorSharing x = new ProcessorSharing();
        x.run(7);
        x.submit(1, 1);
        x.submit(1, 999);
        x.submit(1, 1000);
        due.is("run(1)", x.run(1), 0);
        due.job(x, 0, 0, 0, NOT_YET, NOT_YET);
        due.is("run(1)", x.run(1), 1);
        due.job(x, 0, 3, 1, 8, 8);
        due.is("run(997)", x.run(997), 0);
        due.is("run(1)", x.run(1), 1);
        due.job(x, 1, 3, 1, 1006, 1006);
        due.job(x, 2, 0, 0, NOT_YET, NOT_YET);
        due.is("run(1)", x.run(1), 1);
        due.job(x, 2, 3, 1, 1007, 1007);
    }

    private static void afterZeroIsThePresentTick(Due due) {
        due.says("0: in the present tick, which has not been worked");
        ProcessorSharing x = new ProcessorSharing();
        x.run(7);
        x.submit(1, 0);
        due.job(x, 0, 0, 0, NOT_YET, NOT_YET);
        due.server(x, 7, 0, 0);
        due.is("run(1)", x.run(1), 1);
        due.job(x, 0, 3, 1, 7, 7);
    }

    private static void sizeTooSmall(Due due) {
        due.says("size not in 1 to 100000: BAD_SIZE");
        ProcessorSharing x = new ProcessorSharing();
        int[] wrong = {0, -1, -100000, Integer.MIN_VALUE};
        for (int size : wrong) {
            due.is("submit(" + size + ", 0)", x.submit(size, 0), BAD_SIZE);
        }
        due.is("submit(1, 0)", x.submit(1, 0), 0);
        due.is("submit(2, 0)", x.submit(2, 0), 1);
        due.is("run(1)", x.run(1), 2);
        due.job(x, 0, 3, 1, 0, 0);
        due.job(x, 1, 3, 2, 0, 0);
    }

    /** 119 ticks give 99960 units, so the greatest size takes a 120th. */
    private static void sizeTooLarge(Due due) {
        due.says("size not in 1 to 100000: BAD_SIZE");
        ProcessorSharing x = new ProcessorSharing();
        int[] wrong = {100001, 100002, 1000000, Integer.MAX_VALUE};
        for (int size : wrong) {
            due.is("submit(" + size + ", 0)", x.submit(size, 0), BAD_SIZE);
        }
        due.is("submit(100000, 0)", x.submit(100000, 0), 0);
        due.is("submit(99999, 1000)", x.submit(99999, 1000), 1);
        due.is("run(119)", x.run(119), 0);
        due.job(x, 0, 2, 99960, 0, NOT_YET);
        due.is("run(1)", x.run(1), 1);
        due.job(x, 0, 3, 100000, 0, 119);
        due.is("run(1000)", x.run(1000), 1);
        due.job(x, 1, 3, 99999, 1000, 1119);
    }

    private static void timeTooSmall(Due due) {
        due.says("after not in 0 to 1000: BAD_TIME");
        ProcessorSharing x = new ProcessorSharing();
        x.run(10);
        int[] wrong = {-1, -2, -10, Integer.MIN_VALUE};
        for (int after : wrong) {
            due.is("submit(5, " + after + ")", x.submit(5, after), BAD_TIME);
        }
        due.is("submit(5, 0)", x.submit(5, 0), 0);
        due.is("submit(5, 1)", x.submit(5, 1), 1);
        due.is("run(2)", x.run(2), 2);
        due.job(x, 0, 3, 5, 10, 10);
        due.job(x, 1, 3, 5, 11, 11);
    }

    private static void timeTooLarge(Due due) {
        due.says("after not in 0 to 1000: BAD_TIME");
        ProcessorSharing x = new ProcessorSharing();
        int[] wrong = {1001, 1002, 5000, Integer.MAX_VALUE};
        for (int after : wrong) {
            due.is("submit(5, " + after + ")", x.submit(5, after), BAD_TIME);
        }
        due.is("submit(5, 1000)", x.submit(5, 1000), 0);
        due.is("submit(5, 999)", x.submit(5, 999), 1);
        due.is("run(1000)", x.run(1000), 1);
        due.is("run(1)", x.run(1), 1);
        due.job(x, 0, 3, 5, 1000, 1000);
        due.job(x, 1, 3, 5, 999, 999);
    }

    private static void numbersGoUpToFull(Due due) {
        due.says("there are 24 jobs: FULL .. Else the job gets the next number, from 0");
        ProcessorSharing x = new ProcessorSharing();
        for (int job = 0; job < 24; job++) {
            due.is("submit as job " + job, x.submit(100, 7), job);
        }
        due.is("submit as 25th", x.submit(100, 7), FULL);
        due.is("submit as 25th again", x.submit(1, 0), FULL);
    }

    private static void jobsOfEveryStateCountForFull(Due due) {
        due.says("there are 24 jobs: FULL");
        ProcessorSharing x = Scene.ofEveryState();
        Scene.submitMore(x, 23 - Scene.JOBS, 5, 9);
        due.is("submit as 24th", x.submit(5, 9), 23);
        due.is("submit as 25th", x.submit(5, 9), FULL);
        x.run(5000);
        due.is("submit as 25th, later", x.submit(5, 9), FULL);
    }

    private static void finishedJobsCountForFull(Due due) {
        due.says("there are 24 jobs: FULL");
        ProcessorSharing x = Scene.withJobs(23, 1, 0);
        due.is("run(3)", x.run(3), 23);
        due.is("submit as 24th", x.submit(1, 0), 23);
        due.is("run(1)", x.run(1), 1);
        due.is("submit when all have finished", x.submit(1, 0), FULL);
    }

    private static void goneJobsCountForFull(Due due) {
        due.says("there are 24 jobs: FULL");
        ProcessorSharing x = Scene.withJobs(23, 1, 0);
        for (int job = 0; job < 23; job++) {
            x.cancel(job);
        }
        due.is("submit as 24th", x.submit(1, 0), 23);
        due.is("cancel(23)", x.cancel(23), 0);
        due.is("submit when all are gone", x.submit(1, 0), FULL);
    }

    private static void sizeIsTestedBeforeTime(Due due) {
        due.says("Tests in this order: size ..; after ..");
        ProcessorSharing x = new ProcessorSharing();
        due.is("submit(0, -1)", x.submit(0, -1), BAD_SIZE);
        due.is("submit(0, 1001)", x.submit(0, 1001), BAD_SIZE);
        due.is("submit(100001, -1)", x.submit(100001, -1), BAD_SIZE);
        due.is("submit(100001, 1001)", x.submit(100001, 1001), BAD_SIZE);
    }

    private static void sizeIsTestedBeforeFull(Due due) {
        due.says("Tests in this order: size ..; .. there are 24 jobs");
        ProcessorSharing x = Scene.withJobs(24, 1, 1);
        due.is("submit(0, 0) when full", x.submit(0, 0), BAD_SIZE);
        due.is("submit(100001, 0) when full", x.submit(100001, 0), BAD_SIZE);
        due.is("submit(0, 1001) when full", x.submit(0, 1001), BAD_SIZE);
        due.is("submit(1, 0) when full", x.submit(1, 0), FULL);
        due.is("submit(100000, 0) when full", x.submit(100000, 0), FULL);
    }

    private static void timeIsTestedBeforeFull(Due due) {
        due.says("Tests in this order: .. after ..; there are 24 jobs");
        ProcessorSharing x = Scene.withJobs(24, 1, 1);
        due.is("submit(1, -1) when full", x.submit(1, -1), BAD_TIME);
        due.is("submit(1, 1001) when full", x.submit(1, 1001), BAD_TIME);
        due.is("submit(1, 0) when full", x.submit(1, 0), FULL);
        due.is("submit(1, 1000) when full", x.submit(1, 1000), FULL);
    }

    private static void badSizeChangesNothing(Due due) {
        due.says("A refused call changes nothing.");
        int[] wrong = {0, 100001};
        for (int size : wrong) {
            ProcessorSharing x = Scene.ofEveryState();
            due.is("submit(" + size + ", 0)", x.submit(size, 0), BAD_SIZE);
            due.alikeFromNowOn(x, Scene.ofEveryState(), Scene.JOBS);
        }
    }

    private static void badTimeChangesNothing(Due due) {
        due.says("A refused call changes nothing.");
        int[] wrong = {-1, 1001};
        for (int after : wrong) {
            ProcessorSharing x = Scene.ofEveryState();
            due.is("submit(9, " + after + ")", x.submit(9, after), BAD_TIME);
            due.alikeFromNowOn(x, Scene.ofEveryState(), Scene.JOBS);
        }
    }

    private static void fullChangesNothing(Due due) {
        due.says("A refused call changes nothing.");
        ProcessorSharing x = Scene.ofEveryStateAndFull();
        due.is("submit(9, 0)", x.submit(9, 0), FULL);
        due.alikeFromNowOn(x, Scene.ofEveryStateAndFull(), 24);
    }

    private static void refusedCallsUseNoNumber(Due due) {
        due.says("Else the job gets the next number, from 0, which the call answers.");
        ProcessorSharing x = new ProcessorSharing();
        x.submit(0, 0);
        due.is("submit after BAD_SIZE", x.submit(9, 0), 0);
        x.submit(9, -1);
        due.is("submit after BAD_TIME", x.submit(9, 0), 1);
        due.noJob(x, 2);
        Scene.submitMore(x, 22, 9, 0);
        x.submit(9, 0);
        due.noJob(x, 24);
        x.clear();
        due.is("submit after FULL and clear", x.submit(9, 0), 0);
    }

    private static void endedJobsKeepTheirNumbers(Due due) {
        due.says("Else the job gets the next number, from 0, which the call answers.");
        ProcessorSharing x = Scene.withJobs(2, 9, 0);
        x.cancel(1);
        due.is("submit after cancel", x.submit(9, 0), 2);
        x.run(1);
        due.is("submit after a finish", x.submit(9, 0), 3);
        due.job(x, 1, 4, 0, NOT_YET, NOT_YET);
        due.job(x, 2, 3, 9, 0, 0);
    }
}
