/** Promise 7: state. */
public final class StateTest {
    public static void main(String[] args) {
        Due due = new Due();
        tellsEveryState(due);
        tellsWhatIsNoJob(due);
        arrivalInThePresentTickCountsAsNotArrived(due);
        arrivalInTheLastTickWorkedCountsAsArrived(due);
        aJobFromSubmitToFinish(due);
        goneFromEveryState(due);
        due.end();
    }

    private static void tellsEveryState(Due due) {
        due.says("0 not arrived, 1 in the line, 2 served, 3 finished, 4 gone");
        ProcessorSharing x = Scene.ofEveryState();
        due.is("state, not arrived", x.state(Scene.NOT_ARRIVED), 0);
        for (int job = Scene.IN_LINE; job <= Scene.LAST_IN_LINE; job++) {
            due.is("state(" + job + "), in the line", x.state(job), 1);
        }
        for (int job = Scene.SERVED; job <= Scene.LAST_SERVED; job++) {
            due.is("state(" + job + "), served", x.state(job), 2);
        }
        due.is("state, finished", x.state(Scene.FINISHED), 3);
        due.is("state, gone", x.state(Scene.GONE), 4);
    }

    private static void tellsWhatIsNoJob(Due due) {
        due.says("NO_JOB");
        due.onlyJobsAnswer("state", ProcessorSharing::state, 0);
    }

    private static void arrivalInThePresentTickCountsAsNotArrived(Due due) {
        due.says("A job that arrives in the present tick counts as not arrived.");
        for (int after = 0; after <= 3; after++) {
            ProcessorSharing x = Scene.withJobs(1, 5000, after);
            due.is("state(0) when submitted", x.state(0), 0);
            x.run(after);
            due.is("state(0) when it arrives in the present tick", x.state(0), 0);
            due.server(x, after, 0, 0);
            x.run(0);
            due.is("state(0) after run(0)", x.state(0), 0);
            x.run(1);
            due.is("state(0) when that tick is worked", x.state(0), 2);
        }
        ProcessorSharing late = Scene.withJobs(1, 5000, 1000);
        late.run(1000);
        due.is("state(0) in tick 1000", late.state(0), 0);
        late.run(1);
        due.is("state(0) after tick 1000", late.state(0), 2);
    }

    /** One tick takes a job from not arrived to the line, to service or to its finish. */
    private static void arrivalInTheLastTickWorkedCountsAsArrived(Due due) {
        due.says("A job that arrives in the present tick counts as not arrived.");
        ProcessorSharing x = Scene.withJobs(1, 105, 0);
        Scene.submitMore(x, 8, 5000, 0);
        x.run(1);
        due.is("state(0)", x.state(0), 3);
        due.is("state(7)", x.state(7), 2);
        due.is("state(8)", x.state(8), 1);
    }

    /** Job 8 goes through all states but gone. */
    private static void aJobFromSubmitToFinish(Due due) {
        due.says("0 not arrived, 1 in the line, 2 served, 3 finished");
        ProcessorSharing x = Scene.withJobs(8, 420, 0);
        x.submit(2000, 2);
        int[] states = {0, 0, 1, 1, 2, 2, 3, 3};
        due.is("state(8) when submitted", x.state(8), 0);
        for (int tick = 0; tick < states.length; tick++) {
            x.run(1);
            due.is("state(8) after tick " + tick, x.state(8), states[tick]);
        }
        x.run(5000);
        due.is("state(8) long after", x.state(8), 3);
    }

    private static void goneFromEveryState(Due due) {
        due.says("A job that was taken away has the state GONE");
        int[] taken = {Scene.SERVED, Scene.IN_LINE, Scene.NOT_ARRIVED};
        for (int job : taken) {
            ProcessorSharing x = Scene.ofEveryState();
            x.cancel(job);
            due.is("state(" + job + ")", x.state(job), 4);
            x.run(1);
            due.is("state(" + job + ") a tick later", x.state(job), 4);
            x.run(5000);
            due.is("state(" + job + ") long after", x.state(job), 4);
        }
    }
}
