/** Promise 11: served. */
public final class ServedTest {
    public static void main(String[] args) {
        Due due = new Due();
        nobodyAheadOfTheFirstTick(due);
        countsFromNoneToEight(due);
        finishedJobsAreNotServed(due);
        takenAwayJobsDoNotCount(due);
        takingOtherJobsAwayDoesNotCount(due);
        freePlacesAreFilledByTheNextTickAlone(due);
        callsThatWorkNoTickLeaveIt(due);
        due.end();
    }

    private static void nobodyAheadOfTheFirstTick(Due due) {
        due.says("How many jobs are served at the end of the last tick worked");
        ProcessorSharing x = Scene.withJobs(10, 1000, 0);
        due.is("served()", x.served(), 0);
        x.run(0);
        due.is("served() after run(0)", x.served(), 0);
        x.run(1);
        due.is("served() after run(1)", x.served(), 8);
    }

    private static void countsFromNoneToEight(Due due) {
        due.says("How many jobs are served at the end of the last tick worked");
        for (int count = 0; count <= 24; count++) {
            ProcessorSharing x = Scene.withJobs(count, 1000, 0);
            x.run(1);
            due.is("served() of " + count, x.served(), count < 8 ? count : 8);
        }
    }

    /** A job that finishes at the end of the last tick has left then. */
    private static void finishedJobsAreNotServed(Due due) {
        due.says("How many jobs are served at the end of the last tick worked");
        ProcessorSharing x = new ProcessorSharing();
        x.submit(280, 0);
        x.submit(281, 0);
        x.submit(280, 0);
        x.run(1);
        due.is("served() after two of three finished", x.served(), 1);
        x.run(1);
        due.is("served() after the last one finished", x.served(), 0);
    }

    private static void takenAwayJobsDoNotCount(Due due) {
        due.says("and have not been taken away since");
        ProcessorSharing x = Scene.withJobs(8, 5000, 0);
        x.run(1);
        for (int job = 0; job < 8; job++) {
            due.is("served() ahead of cancel(" + job + ")", x.served(), 8 - job);
            x.cancel(job);
            due.is("served() after cancel(" + job + ")", x.served(), 7 - job);
            x.cancel(job);
            due.is("served() after cancel(" + job + ") again", x.served(), 7 - job);
        }
        x.run(1);
        due.is("served() a tick later", x.served(), 0);
    }

    private static void takingOtherJobsAwayDoesNotCount(Due due) {
        due.says("and have not been taken away since");
        ProcessorSharing x = Scene.ofEveryState();
        int[] notServed = {Scene.FINISHED, Scene.GONE, Scene.IN_LINE, Scene.NOT_ARRIVED, Scene.JOBS, -1};
        for (int job : notServed) {
            x.cancel(job);
            due.is("served() after cancel(" + job + ")", x.served(), 7);
        }
    }

    private static void freePlacesAreFilledByTheNextTickAlone(Due due) {
        due.says("How many jobs are served at the end of the last tick worked");
        ProcessorSharing x = Scene.withJobs(12, 5000, 0);
        x.run(2);
        x.cancel(0);
        x.cancel(1);
        due.server(x, 2, 6, 4);
        x.run(0);
        due.server(x, 2, 6, 4);
        x.run(1);
        due.server(x, 3, 8, 2);
    }

    private static void callsThatWorkNoTickLeaveIt(Due due) {
        due.says("How many jobs are served at the end of the last tick worked");
        ProcessorSharing x = Scene.ofEveryState();
        x.submit(5, 0);
        due.is("served() after submit", x.served(), 7);
        x.submit(0, 0);
        due.is("served() after a refused submit", x.served(), 7);
        x.run(-1);
        due.is("served() after run(-1)", x.served(), 7);
        x.clear();
        due.is("served() after clear", x.served(), 0);
    }
}
