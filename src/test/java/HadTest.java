/** Promise 8: had. */
public final class HadTest {
    public static void main(String[] args) {
        Due due = new Due();
        goesUpByTheShare(due);
        isNothingAheadOfService(due);
        isTheSizeOfAFinishedJob(due);
        goneJobsKeepWhatTheyHad(due);
        tellsWhatIsNoJob(due);
        due.end();
    }

    /** One, two and three jobs share the first, the second and the third tick. */
    private static void goesUpByTheShare(Due due) {
        due.says("How many units of work the job has had so far");
        ProcessorSharing x = new ProcessorSharing();
        x.submit(9000, 0);
        x.submit(9000, 1);
        x.submit(9000, 2);
        int[] first = {840, 1260, 1540};
        int[] second = {0, 420, 700};
        int[] third = {0, 0, 280};
        for (int tick = 0; tick < 3; tick++) {
            x.run(1);
            due.is("had(0) after tick " + tick, x.had(0), first[tick]);
            due.is("had(1) after tick " + tick, x.had(1), second[tick]);
            due.is("had(2) after tick " + tick, x.had(2), third[tick]);
        }
    }

    private static void isNothingAheadOfService(Due due) {
        due.says("How many units of work the job has had so far");
        ProcessorSharing x = Scene.ofEveryState();
        due.is("had, not arrived", x.had(Scene.NOT_ARRIVED), 0);
        due.is("had, in the line", x.had(Scene.IN_LINE), 0);
        ProcessorSharing y = Scene.withJobs(1, 5, 0);
        due.is("had, arrives in the present tick", y.had(0), 0);
    }

    /** Sizes below, at and above whole shares; a finished job's answer stays. */
    private static void isTheSizeOfAFinishedJob(Due due) {
        due.says("its size if it has finished");
        int[] sizes = {1, 839, 840, 841, 1679, 1680, 1681, 99960, 99961, 100000};
        for (int size : sizes) {
            ProcessorSharing x = Scene.withJobs(1, size, 0);
            int lastTick = (size - 1) / 840;
            due.is("run(" + lastTick + ")", x.run(lastTick), 0);
            due.is("had(0) ahead of the last tick", x.had(0), lastTick * 840);
            due.is("run(1)", x.run(1), 1);
            due.is("had(0)", x.had(0), size);
            x.run(100);
            due.is("had(0) later", x.had(0), size);
        }
    }

    private static void goneJobsKeepWhatTheyHad(Due due) {
        due.says("A job that was taken away .. keeps what it had.");
        int[] taken = {Scene.SERVED, Scene.LAST_SERVED, Scene.IN_LINE, Scene.NOT_ARRIVED};
        int[] had = {210, 105, 0, 0};
        for (int i = 0; i < taken.length; i++) {
            ProcessorSharing x = Scene.ofEveryState();
            x.cancel(taken[i]);
            due.is("had(" + taken[i] + ")", x.had(taken[i]), had[i]);
            x.run(1);
            due.is("had(" + taken[i] + ") a tick later", x.had(taken[i]), had[i]);
            x.run(5000);
            due.is("had(" + taken[i] + ") long after", x.had(taken[i]), had[i]);
        }
    }

    private static void tellsWhatIsNoJob(Due due) {
        due.says("NO_JOB");
        due.onlyJobsAnswer("had", ProcessorSharing::had, 0);
    }
}
