/** Promises 11 and 12 together: served and waiting. */
public final class CountsTest {
    public static void main(String[] args) {
        Due due = new Due();
        arrivalsCountOnlyOnceWorked(due);
        finishedJobsAreNotServed(due);
        takenAwayJobsDoNotCount(due);
        lineGrowsAndShrinks(due);
        due.end();
    }

    private static void arrivalsCountOnlyOnceWorked(Due due) {
        due.says("served at the end of the last tick worked");
        ProcessorSharing x = new ProcessorSharing();
        for (int job = 0; job < 10; job++) {
            x.submit(1000, 0);
        }
        due.server(x, 0, 0, 0);
        x.run(0);
        due.server(x, 0, 0, 0);
        x.run(1);
        due.server(x, 1, 8, 2);
    }

    private static void finishedJobsAreNotServed(Due due) {
        due.says("is finished at the end of this tick and leaves");
        ProcessorSharing x = new ProcessorSharing();
        x.submit(280, 0);
        x.submit(281, 0);
        x.submit(280, 0);
        x.run(1);
        due.server(x, 1, 1, 0);
        x.run(1);
        due.server(x, 2, 0, 0);
    }

    private static void takenAwayJobsDoNotCount(Due due) {
        due.says("have not been taken away since");
        ProcessorSharing x = new ProcessorSharing();
        for (int job = 0; job < 12; job++) {
            x.submit(5000, 0);
        }
        x.submit(5000, 9);
        x.run(2);
        due.server(x, 2, 8, 4);
        x.cancel(0);
        due.server(x, 2, 7, 4);
        x.cancel(11);
        due.server(x, 2, 7, 3);
        x.cancel(12);
        due.server(x, 2, 7, 3);
        x.cancel(0);
        due.server(x, 2, 7, 3);
        x.run(1);
        due.server(x, 3, 8, 2);
    }

    private static void lineGrowsAndShrinks(Due due) {
        due.says("How many jobs stand in the line now.");
        ProcessorSharing x = new ProcessorSharing();
        for (int job = 0; job < 24; job++) {
            x.submit(420, job / 8);
        }
        x.run(1);
        due.server(x, 1, 8, 0);
        x.run(1);
        due.server(x, 2, 8, 8);
        x.run(1);
        due.server(x, 3, 8, 16);
        x.run(1);
        due.server(x, 4, 0, 16);
        x.run(1);
        due.server(x, 5, 8, 8);
        x.run(3);
        due.server(x, 8, 0, 8);
        x.run(4);
        due.server(x, 12, 0, 0);
    }
}
