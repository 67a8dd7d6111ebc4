/** Promise 3: cancel. */
public final class CancelTest {
    private static final int NO_JOB = ProcessorSharing.NO_JOB;
    private static final int NOT_YET = ProcessorSharing.NOT_YET;

    public static void main(String[] args) {
        Due due = new Due();
        jobNotArrivedNeverArrives(due);
        jobThatArrivesNowNeverArrives(due);
        frontOfTheLineLeavesIt(due);
        middleAndEndOfTheLineLeaveIt(due);
        servedJobIsServedNoMore(due);
        lastServedJobLeavesAnIdleServer(due);
        placeOfServedJobIsFilledInThePresentTick(due);
        noJobWithoutJobs(due);
        noJobOnBothSidesOfTheNumbers(due);
        noJobWhenFull(due);
        noJobAfterClear(due);
        noJobChangesNothing(due);
        finishedJobIsRefused(due);
        goneJobIsRefused(due);
        answersTheUnitsHad(due);
        due.end();
    }

    private static void jobNotArrivedNeverArrives(Due due) {
        due.says("a job that has not arrived never arrives");
        ProcessorSharing x = new ProcessorSharing();
        x.submit(10, 2);
        x.submit(10, 1000);
        due.is("cancel(0)", x.cancel(0), 0);
        due.is("cancel(1)", x.cancel(1), 0);
        due.is("run(2)", x.run(2), 0);
        due.job(x, 0, 4, 0, NOT_YET, NOT_YET);
        due.is("run(1), in which it would arrive", x.run(1), 0);
        due.server(x, 3, 0, 0);
        due.job(x, 0, 4, 0, NOT_YET, NOT_YET);
        due.is("run(5000)", x.run(5000), 0);
        due.job(x, 1, 4, 0, NOT_YET, NOT_YET);
        due.is("submit after it", x.submit(10, 0), 2);
    }

    private static void jobThatArrivesNowNeverArrives(Due due) {
        due.says("a job that has not arrived never arrives");
        ProcessorSharing x = new ProcessorSharing();
        x.submit(10, 3);
        x.run(3);
        x.submit(10, 0);
        due.is("cancel(0), submitted before", x.cancel(0), 0);
        due.is("cancel(1), submitted just now", x.cancel(1), 0);
        due.is("run(10)", x.run(10), 0);
        due.server(x, 13, 0, 0);
        due.job(x, 0, 4, 0, NOT_YET, NOT_YET);
        due.job(x, 1, 4, 0, NOT_YET, NOT_YET);
    }

    private static void frontOfTheLineLeavesIt(Due due) {
        due.says("one in the line leaves it");
        ProcessorSharing x = Scene.withJobs(8, 210, 0);
        Scene.submitMore(x, 3, 50, 0);
        x.run(1);
        due.server(x, 1, 8, 3);
        due.is("cancel(8)", x.cancel(8), 0);
        due.server(x, 1, 8, 2);
        due.is("run(1)", x.run(1), 8);
        due.job(x, 8, 4, 0, NOT_YET, NOT_YET);
        due.is("run(1)", x.run(1), 2);
        due.job(x, 8, 4, 0, NOT_YET, NOT_YET);
        due.job(x, 9, 3, 50, 2, 2);
        due.job(x, 10, 3, 50, 2, 2);
    }

    /** One place in service comes free in each tick, so the order of those left can be seen. */
    private static void middleAndEndOfTheLineLeaveIt(Due due) {
        due.says("one in the line leaves it");
        ProcessorSharing x = Scene.withJobs(13, 90000, 0);
        x.run(1);
        due.server(x, 1, 8, 5);
        due.is("cancel(10), in the middle", x.cancel(10), 0);
        due.is("cancel(12), at the end", x.cancel(12), 0);
        due.server(x, 1, 8, 3);
        for (int job = 0; job < 3; job++) {
            x.cancel(job);
            x.run(1);
        }
        due.server(x, 4, 8, 0);
        due.is("admitted(8)", x.admitted(8), 1);
        due.is("admitted(9)", x.admitted(9), 2);
        due.is("admitted(10)", x.admitted(10), NOT_YET);
        due.is("admitted(11)", x.admitted(11), 3);
        due.is("admitted(12)", x.admitted(12), NOT_YET);
    }

    private static void servedJobIsServedNoMore(Due due) {
        due.says("one that is served is served no more (from the present tick on)");
        ProcessorSharing x = Scene.withJobs(3, 5000, 0);
        x.run(2);
        due.server(x, 2, 3, 0);
        due.is("cancel(1)", x.cancel(1), 560);
        due.server(x, 2, 2, 0);
        due.job(x, 1, 4, 560, 0, NOT_YET);
        x.run(1);
        due.job(x, 0, 2, 980, 0, NOT_YET);
        due.job(x, 1, 4, 560, 0, NOT_YET);
        due.job(x, 2, 2, 980, 0, NOT_YET);
    }

    private static void lastServedJobLeavesAnIdleServer(Due due) {
        due.says("one that is served is served no more (from the present tick on)");
        ProcessorSharing x = Scene.withJobs(1, 841, 0);
        x.run(1);
        due.is("cancel(0), which needs one unit more", x.cancel(0), 840);
        due.server(x, 1, 0, 0);
        due.is("run(100)", x.run(100), 0);
        due.server(x, 101, 0, 0);
        due.job(x, 0, 4, 840, 0, NOT_YET);
    }

    private static void placeOfServedJobIsFilledInThePresentTick(Due due) {
        due.says("one that is served is served no more (from the present tick on)");
        ProcessorSharing x = Scene.withJobs(9, 1000, 0);
        x.run(4);
        due.is("cancel(3)", x.cancel(3), 420);
        due.server(x, 4, 7, 1);
        due.is("state(8)", x.state(8), 1);
        x.run(1);
        due.server(x, 5, 8, 0);
        due.job(x, 8, 2, 105, 4, NOT_YET);
    }

    private static void noJobWithoutJobs(Due due) {
        due.says("No such job: NO_JOB");
        int[] wrong = {0, 1, 23, 24, -1, Integer.MIN_VALUE, Integer.MAX_VALUE};
        for (int job : wrong) {
            due.is("cancel(" + job + ")", new ProcessorSharing().cancel(job), NO_JOB);
        }
    }

    private static void noJobOnBothSidesOfTheNumbers(Due due) {
        due.says("No such job: NO_JOB");
        ProcessorSharing x = Scene.withJobs(2, 10, 0);
        int[] wrong = {-1, 2, 3, 23, 24, 25, Integer.MIN_VALUE, Integer.MAX_VALUE};
        for (int job : wrong) {
            due.is("cancel(" + job + ")", x.cancel(job), NO_JOB);
        }
        due.is("cancel(0)", x.cancel(0), 0);
        due.is("cancel(1)", x.cancel(1), 0);
    }

    private static void noJobWhenFull(Due due) {
        due.says("No such job: NO_JOB");
        ProcessorSharing x = Scene.withJobs(24, 10, 0);
        due.is("cancel(24)", x.cancel(24), NO_JOB);
        due.is("cancel(25)", x.cancel(25), NO_JOB);
        due.is("cancel(-1)", x.cancel(-1), NO_JOB);
        due.is("cancel(23)", x.cancel(23), 0);
    }

    private static void noJobAfterClear(Due due) {
        due.says("No such job: NO_JOB");
        ProcessorSharing x = Scene.ofEveryState();
        x.clear();
        for (int job = 0; job < Scene.JOBS; job++) {
            due.is("cancel(" + job + ")", x.cancel(job), NO_JOB);
        }
        x.submit(10, 0);
        due.is("cancel(1)", x.cancel(1), NO_JOB);
        due.is("cancel(0)", x.cancel(0), 0);
    }

    private static void noJobChangesNothing(Due due) {
        due.says("No such job: NO_JOB; .. nothing changes then.");
        int[] wrong = {-1, Scene.JOBS, 24};
        for (int job : wrong) {
            ProcessorSharing x = Scene.ofEveryState();
            due.is("cancel(" + job + ")", x.cancel(job), NO_JOB);
            due.alikeFromNowOn(x, Scene.ofEveryState(), Scene.JOBS);
        }
    }

    private static void finishedJobIsRefused(Due due) {
        due.says("it has finished .. before: NOT_YET; nothing changes then.");
        ProcessorSharing x = Scene.ofEveryState();
        due.is("cancel, finished", x.cancel(Scene.FINISHED), NOT_YET);
        due.is("cancel, finished, again", x.cancel(Scene.FINISHED), NOT_YET);
        due.job(x, Scene.FINISHED, 3, 1, 0, 0);
        due.alikeFromNowOn(x, Scene.ofEveryState(), Scene.JOBS);
    }

    /** Taken away before, from each of the three states that allow it. */
    private static void goneJobIsRefused(Due due) {
        due.says("it .. was taken away before: NOT_YET; nothing changes then.");
        int[] taken = {Scene.SERVED, Scene.IN_LINE, Scene.NOT_ARRIVED};
        for (int job : taken) {
            ProcessorSharing x = Scene.ofEveryState();
            ProcessorSharing twin = Scene.ofEveryState();
            x.cancel(job);
            twin.cancel(job);
            due.is("cancel, gone", x.cancel(job), NOT_YET);
            due.is("cancel, gone, again", x.cancel(job), NOT_YET);
            due.alikeFromNowOn(x, twin, Scene.JOBS);
        }
    }

    private static void answersTheUnitsHad(Due due) {
        due.says("Else answers how many units of work it has had.");
        due.is("cancel, not arrived", Scene.ofEveryState().cancel(Scene.NOT_ARRIVED), 0);
        due.is("cancel, in the line", Scene.ofEveryState().cancel(Scene.IN_LINE), 0);
        due.is("cancel, served", Scene.ofEveryState().cancel(Scene.SERVED), 210);
        due.is("cancel, served", Scene.ofEveryState().cancel(Scene.LAST_SERVED), 105);
        ProcessorSharing x = Scene.withJobs(1, 100000, 0);
        x.run(119);
        due.is("cancel ahead of the last tick", x.cancel(0), 99960);
    }
}
