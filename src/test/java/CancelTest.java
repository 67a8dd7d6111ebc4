/** Promise 3: cancel. */
public final class CancelTest {
    private static final int NO_JOB = ProcessorSharing.NO_JOB;
    private static final int NOT_YET = ProcessorSharing.NOT_YET;

    public static void main(String[] args) {
        Due due = new Due();
        refusesWhatIsNoJob(due);
        refusesEndedJobs(due);
        jobNotArrivedNeverArrives(due);
        jobInLineLeavesIt(due);
        servedJobIsServedNoMore(due);
        placeOfServedJobIsFilledInThePresentTick(due);
        due.end();
    }

    private static void refusesWhatIsNoJob(Due due) {
        ProcessorSharing x = new ProcessorSharing();
        due.is("cancel(0) without jobs", x.cancel(0), NO_JOB);
        x.submit(10, 0);
        int[] wrong = {-1, 1, 23, 24, 25, Integer.MIN_VALUE, Integer.MAX_VALUE};
        for (int job : wrong) {
            due.is("cancel(" + job + ")", x.cancel(job), NO_JOB);
        }
        due.job(x, 0, 0, 0, NOT_YET, NOT_YET);
        for (int job = 1; job < 24; job++) {
            x.submit(10, 0);
        }
        due.is("cancel(24) when full", x.cancel(24), NO_JOB);
        due.is("cancel(23) when full", x.cancel(23), 0);
    }

    private static void refusesEndedJobs(Due due) {
        ProcessorSharing x = new ProcessorSharing();
        x.submit(10, 0);
        x.submit(5000, 0);
        x.run(1);
        due.is("cancel(0), finished", x.cancel(0), NOT_YET);
        due.job(x, 0, 3, 10, 0, 0);
        due.is("cancel(1), served", x.cancel(1), 420);
        due.is("cancel(1), gone", x.cancel(1), NOT_YET);
        due.job(x, 1, 4, 420, 0, NOT_YET);
        due.server(x, 1, 0, 0);
    }

    private static void jobNotArrivedNeverArrives(Due due) {
        ProcessorSharing x = new ProcessorSharing();
        x.submit(10, 2);
        x.submit(10, 0);
        due.is("cancel(0), arrives later", x.cancel(0), 0);
        due.is("cancel(1), arrives in the present tick", x.cancel(1), 0);
        due.is("run(10)", x.run(10), 0);
        due.server(x, 10, 0, 0);
        due.job(x, 0, 4, 0, NOT_YET, NOT_YET);
        due.job(x, 1, 4, 0, NOT_YET, NOT_YET);
        due.is("submit after it", x.submit(10, 0), 2);
    }

    private static void jobInLineLeavesIt(Due due) {
        ProcessorSharing x = new ProcessorSharing();
        for (int job = 0; job < 11; job++) {
            x.submit(job < 8 ? 210 : 50, 0);
        }
        x.run(1);
        due.server(x, 1, 8, 3);
        due.is("cancel(8), front of the line", x.cancel(8), 0);
        due.server(x, 1, 8, 2);
        due.is("run(1)", x.run(1), 8);
        due.job(x, 8, 4, 0, NOT_YET, NOT_YET);
        due.is("run(1)", x.run(1), 2);
        due.job(x, 9, 3, 50, 2, 2);
        due.job(x, 10, 3, 50, 2, 2);
    }

    private static void servedJobIsServedNoMore(Due due) {
        ProcessorSharing x = new ProcessorSharing();
        x.submit(5000, 0);
        x.submit(5000, 0);
        x.submit(5000, 0);
        x.run(2);
        due.server(x, 2, 3, 0);
        due.is("cancel(1)", x.cancel(1), 560);
        due.server(x, 2, 2, 0);
        x.run(1);
        due.job(x, 0, 2, 980, 0, NOT_YET);
        due.job(x, 1, 4, 560, 0, NOT_YET);
        due.job(x, 2, 2, 980, 0, NOT_YET);
        due.is("cancel(0)", x.cancel(0), 980);
        due.is("cancel(2)", x.cancel(2), 980);
        due.is("run(100)", x.run(100), 0);
        due.server(x, 103, 0, 0);
    }

    private static void placeOfServedJobIsFilledInThePresentTick(Due due) {
        ProcessorSharing x = new ProcessorSharing();
        for (int job = 0; job < 9; job++) {
            x.submit(1000, 0);
        }
        x.run(4);
        due.is("cancel(3)", x.cancel(3), 420);
        due.server(x, 4, 7, 1);
        due.is("state(8)", x.state(8), 1);
        x.run(1);
        due.server(x, 5, 8, 0);
        due.job(x, 8, 2, 105, 4, NOT_YET);
    }
}
