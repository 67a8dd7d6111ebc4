/** Promise 6: now. */
public final class NowTest {
    private static final int NOT_YET = ProcessorSharing.NOT_YET;

    public static void main(String[] args) {
        Due due = new Due();
        isTheNextTickToBeWorked(due);
        onlyRunMovesIt(due);
        goesAsFarAsTheCallsReach(due);
        jobsAreWorkedAsLateAsTheCallsReach(due);
        due.end();
    }

    /** What is submitted for the present tick is admitted in the tick that now() told. */
    private static void isTheNextTickToBeWorked(Due due) {
        due.says("The present tick, the next one to be worked.");
        ProcessorSharing x = new ProcessorSharing();
        int[] ticks = {0, 1, 4, 100};
        for (int job = 0; job < ticks.length; job++) {
            x.run(ticks[job]);
            int present = x.now();
            x.submit(1, 0);
            due.is("admitted ahead of it", x.admitted(job), NOT_YET);
            x.run(1);
            due.is("admitted", x.admitted(job), present);
            due.is("now()", x.now(), present + 1);
        }
    }

    private static void onlyRunMovesIt(Due due) {
        due.says("The present tick, the next one to be worked.");
        ProcessorSharing x = new ProcessorSharing();
        due.is("now()", x.now(), 0);
        x.submit(100, 50);
        x.submit(0, 0);
        due.is("now() after submit", x.now(), 0);
        x.run(3);
        due.is("now() after run(3)", x.now(), 3);
        due.is("now() asked again", x.now(), 3);
        x.cancel(0);
        due.is("now() after cancel", x.now(), 3);
        x.clear();
        due.is("now() after clear", x.now(), 3);
        x.run(-7);
        due.is("now() after run(-7)", x.now(), 3);
        x.run(6000);
        due.is("now() after run(6000)", x.now(), 5003);
    }

    /** The last call is the 512th one: 2560000 itself is reached by 512 runs, and then no call is left. */
    private static void goesAsFarAsTheCallsReach(Due due) {
        due.says("512 calls reach at most 2560000.");
        ProcessorSharing x = new ProcessorSharing();
        for (int i = 0; i < 511; i++) {
            x.run(Integer.MAX_VALUE);
        }
        due.is("now() after 511 runs", x.now(), 2555000);
    }

    /** The last call is the 512th one. */
    private static void jobsAreWorkedAsLateAsTheCallsReach(Due due) {
        due.says("512 calls reach at most 2560000.");
        ProcessorSharing x = new ProcessorSharing();
        for (int i = 0; i < 507; i++) {
            x.run(5000);
        }
        x.submit(1000, 1000);
        x.run(5000);
        due.is("admitted(0) late", x.admitted(0), 2536000);
        due.is("finished(0) late", x.finished(0), 2536001);
        due.is("now() late", x.now(), 2540000);
    }
}
