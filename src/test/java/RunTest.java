/** Promise 4: run. */
public final class RunTest {
    private static final int NOT_YET = ProcessorSharing.NOT_YET;

    public static void main(String[] args) {
        Due due = new Due();
        worksSoManyTicks(due);
        belowZeroCountsAsZero(due);
        belowZeroChangesNothing(due);
        aboveTheMostCountsAsTheMost(due);
        countsTheFinished(due);
        countsAllJobs(due);
        countsNoJobThatWasTakenAway(due);
        presentTickGoesUp(due);
        idleTicksAreWorkedToo(due);
        ticksDoNotDependOnHowTheyAreCalled(due);
        due.end();
    }

    private static void worksSoManyTicks(Due due) {
        due.says("Works n ticks");
        for (int n = 1; n <= 4; n++) {
            ProcessorSharing x = Scene.withJobs(1, 100000, 0);
            due.is("run(" + n + ")", x.run(n), 0);
            due.job(x, 0, 2, 840 * n, 0, NOT_YET);
            due.is("now()", x.now(), n);
        }
    }

    private static void belowZeroCountsAsZero(Due due) {
        due.says("n below 0 counts as 0");
        ProcessorSharing x = Scene.withJobs(1, 1, 0);
        int[] none = {0, -1, -2, -5000, -5001, Integer.MIN_VALUE};
        for (int n : none) {
            due.is("run(" + n + ")", x.run(n), 0);
            due.server(x, 0, 0, 0);
            due.job(x, 0, 0, 0, NOT_YET, NOT_YET);
        }
        due.is("run(1)", x.run(1), 1);
        due.is("now()", x.now(), 1);
        due.is("run(-1)", x.run(-1), 0);
        due.is("now() after run(-1)", x.now(), 1);
    }

    private static void belowZeroChangesNothing(Due due) {
        due.says("n below 0 counts as 0");
        int[] none = {0, -1, Integer.MIN_VALUE};
        for (int n : none) {
            ProcessorSharing x = Scene.ofEveryState();
            due.is("run(" + n + ")", x.run(n), 0);
            due.alikeFromNowOn(x, Scene.ofEveryState(), Scene.JOBS);
        }
    }

    /** The job ends long before the 5000th tick, so the present tick alone shows the bound. */
    private static void aboveTheMostCountsAsTheMost(Due due) {
        due.says("above 5000 as 5000");
        int[] ticks = {4999, 5000, 5001, 5002, 10000, Integer.MAX_VALUE};
        int[] worked = {4999, 5000, 5000, 5000, 5000, 5000};
        for (int i = 0; i < ticks.length; i++) {
            ProcessorSharing x = Scene.withJobs(1, 100000, 1000);
            due.is("run(" + ticks[i] + ")", x.run(ticks[i]), 1);
            due.is("now() after run(" + ticks[i] + ")", x.now(), worked[i]);
            due.job(x, 0, 3, 100000, 1000, 1119);
            x.submit(1, 0);
            x.run(1);
            due.is("admitted(1)", x.admitted(1), worked[i]);
        }
    }

    private static void countsTheFinished(Due due) {
        due.says("Answers how many jobs finished in them.");
        ProcessorSharing x = Scene.withJobs(2, 420, 0);
        x.submit(840, 3);
        x.submit(1681, 4);
        due.is("run(1)", x.run(1), 2);
        due.is("run(1)", x.run(1), 0);
        due.is("run(2)", x.run(2), 1);
        due.is("run(2)", x.run(2), 0);
        due.is("run(1)", x.run(1), 1);
        due.is("run(5000)", x.run(5000), 0);
    }

    private static void countsAllJobs(Due due) {
        due.says("Answers how many jobs finished in them.");
        due.is("run(5000) without jobs", new ProcessorSharing().run(5000), 0);
        due.is("run(5000) with 24", Scene.withJobs(24, 100000, 1000).run(5000), 24);
        ProcessorSharing x = Scene.withJobs(24, 105, 0);
        due.is("run(2) with 24", x.run(2), 16);
        due.is("run(2) with the rest", x.run(2), 8);
    }

    private static void countsNoJobThatWasTakenAway(Due due) {
        due.says("Answers how many jobs finished in them.");
        ProcessorSharing x = Scene.withJobs(12, 210, 0);
        x.run(1);
        x.cancel(3);
        x.cancel(11);
        due.is("run(5000)", x.run(5000), 10);
    }

    private static void presentTickGoesUp(Due due) {
        due.says("The present tick goes up by n.");
        ProcessorSharing x = new ProcessorSharing();
        int[] ticks = {1, 2, 0, 7, 1000, 4999, 5000};
        int[] now = {1, 3, 3, 10, 1010, 6009, 11009};
        for (int i = 0; i < ticks.length; i++) {
            x.run(ticks[i]);
            due.is("now() after run(" + ticks[i] + ")", x.now(), now[i]);
        }
    }

    private static void idleTicksAreWorkedToo(Due due) {
        due.says("Works n ticks");
        ProcessorSharing x = Scene.withJobs(1, 841, 5);
        due.is("run(5)", x.run(5), 0);
        due.server(x, 5, 0, 0);
        due.job(x, 0, 0, 0, NOT_YET, NOT_YET);
        due.is("run(1)", x.run(1), 0);
        due.job(x, 0, 2, 840, 5, NOT_YET);
        due.is("run(1)", x.run(1), 1);
        due.job(x, 0, 3, 841, 5, 6);
    }

    private static void ticksDoNotDependOnHowTheyAreCalled(Due due) {
        due.says("Works n ticks");
        ProcessorSharing whole = new ProcessorSharing();
        ProcessorSharing single = new ProcessorSharing();
        for (int job = 0; job < 24; job++) {
            int size = 300 + job * 217 % 1000;
            int after = job * 7 % 10;
            whole.submit(size, after);
            single.submit(size, after);
        }
        int ended = 0;
        for (int tick = 0; tick < 25; tick++) {
            ended += single.run(1);
        }
        due.is("run(25)", whole.run(25), ended);
        due.alike(whole, single, 24);
    }
}
