/** Promise 10: finished. */
public final class FinishedTest {
    private static final int NOT_YET = ProcessorSharing.NOT_YET;

    public static void main(String[] args) {
        Due due = new Due();
        tellsTheTickAtWhoseEndItFinished(due);
        staysLater(due);
        notYetAheadOfTheFinish(due);
        notYetWhenTakenAway(due);
        tellsWhatIsNoJob(due);
        due.end();
    }

    /** The tick of the finish is the last one in which the job had work, not the one after it. */
    private static void tellsTheTickAtWhoseEndItFinished(Due due) {
        due.says("The tick at whose end the job finished");
        int[] sizes = {1, 840, 841, 1680, 1681};
        int[] ticks = {0, 0, 1, 1, 2};
        for (int i = 0; i < sizes.length; i++) {
            for (int after = 0; after <= 3; after += 3) {
                ProcessorSharing x = Scene.withJobs(1, sizes[i], after);
                int tick = ticks[i] + after;
                x.run(tick);
                due.is("finished(0) ahead of tick " + tick, x.finished(0), NOT_YET);
                x.run(1);
                due.is("finished(0) after tick " + tick, x.finished(0), tick);
            }
        }
    }

    private static void staysLater(Due due) {
        due.says("The tick at whose end the job finished");
        ProcessorSharing x = Scene.withJobs(2, 420, 0);
        x.submit(5000, 0);
        x.run(2);
        due.is("finished(0)", x.finished(0), 1);
        x.run(1);
        due.is("finished(0) a tick later", x.finished(0), 1);
        x.cancel(0);
        x.run(5000);
        due.is("finished(0) long after", x.finished(0), 1);
        due.is("finished(1) long after", x.finished(1), 1);
    }

    private static void notYetAheadOfTheFinish(Due due) {
        due.says("NOT_YET if it has not");
        ProcessorSharing x = Scene.withJobs(1, 5, 0);
        due.is("finished(0), arrives in the present tick", x.finished(0), NOT_YET);
        x = Scene.ofEveryState();
        due.is("finished, not arrived", x.finished(Scene.NOT_ARRIVED), NOT_YET);
        due.is("finished, in the line", x.finished(Scene.IN_LINE), NOT_YET);
        due.is("finished, served", x.finished(Scene.SERVED), NOT_YET);
        due.is("finished, finished in tick 0", x.finished(Scene.FINISHED), 0);
    }

    private static void notYetWhenTakenAway(Due due) {
        due.says("NOT_YET if it has not");
        int[] taken = {Scene.SERVED, Scene.IN_LINE, Scene.NOT_ARRIVED};
        for (int job : taken) {
            ProcessorSharing x = Scene.ofEveryState();
            due.is("finished, gone before", x.finished(Scene.GONE), NOT_YET);
            x.cancel(job);
            due.is("finished(" + job + "), gone", x.finished(job), NOT_YET);
            x.run(5000);
            due.is("finished(" + job + "), long gone", x.finished(job), NOT_YET);
        }
    }

    private static void tellsWhatIsNoJob(Due due) {
        due.says("NO_JOB");
        due.onlyJobsAnswer("finished", ProcessorSharing::finished, NOT_YET);
    }
}
