/** Promise 1: a new object. */
public final class NewObjectTest {
    private static final int NOT_YET = ProcessorSharing.NOT_YET;

    public static void main(String[] args) {
        Due due = new Due();
        presentTickIsZero(due);
        noTickHasBeenWorked(due);
        thereAreNoJobs(due);
        objectsShareNothing(due);
        due.end();
    }

    private static void presentTickIsZero(Due due) {
        due.says("The present tick is 0");
        ProcessorSharing x = new ProcessorSharing();
        due.is("now()", x.now(), 0);
        due.is("run(1) without jobs", x.run(1), 0);
        due.is("now() after run(1)", x.now(), 1);
    }

    /** Tick 0 is still to come, so a job can arrive, be admitted and finish in it. */
    private static void noTickHasBeenWorked(Due due) {
        due.says("no tick has been worked yet");
        ProcessorSharing x = new ProcessorSharing();
        due.is("submit(840, 0)", x.submit(840, 0), 0);
        due.is("submit(840, 1)", x.submit(840, 1), 1);
        due.is("run(1)", x.run(1), 1);
        due.job(x, 0, 3, 840, 0, 0);
        due.job(x, 1, 0, 0, NOT_YET, NOT_YET);
    }

    private static void thereAreNoJobs(Due due) {
        due.says("No jobs.");
        ProcessorSharing x = new ProcessorSharing();
        for (int job = -1; job <= 24; job++) {
            due.noJob(x, job);
            due.is("cancel(" + job + ")", x.cancel(job), ProcessorSharing.NO_JOB);
        }
        due.server(x, 0, 0, 0);
        due.is("run(5000)", x.run(5000), 0);
        due.server(x, 5000, 0, 0);
        due.is("first submit", x.submit(840, 0), 0);
    }

    private static void objectsShareNothing(Due due) {
        due.says("A new object");
        ProcessorSharing used = Scene.withJobs(1, 5000, 0);
        used.run(3);
        ProcessorSharing fresh = new ProcessorSharing();
        due.server(fresh, 0, 0, 0);
        due.noJob(fresh, 0);
        fresh.submit(1, 0);
        fresh.run(10);
        due.server(used, 3, 1, 0);
        due.job(used, 0, 2, 2520, 0, NOT_YET);
    }
}
