/** Promise 12: waiting. */
public final class WaitingTest {
    public static void main(String[] args) {
        Due due = new Due();
        nobodyInAnEmptyLine(due);
        countsFromNoneToTheMost(due);
        arrivalsCountOnlyOnceTheirTickIsWorked(due);
        takenAwayJobsDoNotCount(due);
        takingOtherJobsAwayDoesNotCount(due);
        lineWaitsForTheNextTick(due);
        callsThatWorkNoTickLeaveIt(due);
        due.end();
    }

    private static void nobodyInAnEmptyLine(Due due) {
        due.says("How many jobs stand in the line now.");
        ProcessorSharing x = new ProcessorSharing();
        due.is("waiting() of a new object", x.waiting(), 0);
        x.run(1);
        due.is("waiting() without jobs", x.waiting(), 0);
        Scene.submitMore(x, 8, 105, 0);
        x.run(1);
        due.is("waiting() when all have finished", x.waiting(), 0);
    }

    private static void countsFromNoneToTheMost(Due due) {
        due.says("How many jobs stand in the line now.");
        for (int count = 0; count <= 24; count++) {
            ProcessorSharing x = Scene.withJobs(count, 1000, 0);
            x.run(1);
            due.is("waiting() of " + count, x.waiting(), count < 8 ? 0 : count - 8);
        }
    }

    private static void arrivalsCountOnlyOnceTheirTickIsWorked(Due due) {
        due.says("How many jobs stand in the line now.");
        ProcessorSharing x = Scene.withJobs(10, 1000, 2);
        due.is("waiting() when submitted", x.waiting(), 0);
        x.run(2);
        due.is("waiting() when they arrive in the present tick", x.waiting(), 0);
        x.run(1);
        due.is("waiting() when that tick is worked", x.waiting(), 2);
    }

    private static void takenAwayJobsDoNotCount(Due due) {
        due.says("How many jobs stand in the line now.");
        ProcessorSharing x = Scene.withJobs(24, 5000, 0);
        x.run(1);
        for (int job = 23; job >= 8; job--) {
            x.cancel(job);
            due.is("waiting() after cancel(" + job + ")", x.waiting(), job - 8);
            x.cancel(job);
            due.is("waiting() after cancel(" + job + ") again", x.waiting(), job - 8);
        }
        x.run(1);
        due.is("waiting() a tick later", x.waiting(), 0);
    }

    private static void takingOtherJobsAwayDoesNotCount(Due due) {
        due.says("How many jobs stand in the line now.");
        ProcessorSharing x = Scene.ofEveryState();
        int[] notInLine = {Scene.FINISHED, Scene.GONE, Scene.SERVED, Scene.NOT_ARRIVED, Scene.JOBS, -1};
        for (int job : notInLine) {
            x.cancel(job);
            due.is("waiting() after cancel(" + job + ")", x.waiting(), 3);
        }
    }

    /** Places that come free at the end of a tick leave the line as it is until the next tick. */
    private static void lineWaitsForTheNextTick(Due due) {
        due.says("How many jobs stand in the line now.");
        ProcessorSharing x = Scene.withJobs(24, 105, 0);
        int[] waiting = {16, 8, 0};
        for (int tick = 0; tick < 3; tick++) {
            due.is("run(1)", x.run(1), 8);
            due.server(x, tick + 1, 0, waiting[tick]);
        }
    }

    private static void callsThatWorkNoTickLeaveIt(Due due) {
        due.says("How many jobs stand in the line now.");
        ProcessorSharing x = Scene.ofEveryState();
        x.submit(5, 0);
        due.is("waiting() after submit", x.waiting(), 3);
        x.submit(0, 0);
        due.is("waiting() after a refused submit", x.waiting(), 3);
        x.run(-1);
        due.is("waiting() after run(-1)", x.waiting(), 3);
        x.clear();
        due.is("waiting() after clear", x.waiting(), 0);
    }
}
