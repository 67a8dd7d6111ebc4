/** Promises 7 to 10 together: all that state, had, admitted and finished tell of one job. */
public final class JobAnswersTest {
    private static final int NOT_YET = ProcessorSharing.NOT_YET;

    public static void main(String[] args) {
        Due due = new Due();
        whatIsNoJob(due);
        aJobFromSubmitToFinish(due);
        goneFromEveryState(due);
        due.end();
    }

    private static void whatIsNoJob(Due due) {
        due.says("NO_JOB");
        ProcessorSharing x = new ProcessorSharing();
        int[] wrong = {-1, 2, 23, 24, 25, Integer.MIN_VALUE, Integer.MAX_VALUE};
        x.submit(10, 0);
        x.submit(10, 0);
        for (int job : wrong) {
            due.noJob(x, job);
        }
        for (int job = 2; job < 24; job++) {
            x.submit(10, 0);
        }
        due.job(x, 23, 0, 0, NOT_YET, NOT_YET);
        due.noJob(x, 24);
        due.noJob(x, -1);
    }

    /** Job 8 goes through all states but gone. */
    private static void aJobFromSubmitToFinish(Due due) {
        due.says("Of a job: 0 not arrived, 1 in the line, 2 served, 3 finished, 4 gone");
        ProcessorSharing x = new ProcessorSharing();
        for (int job = 0; job < 8; job++) {
            x.submit(420, 0);
        }
        x.submit(2000, 2);
        due.job(x, 8, 0, 0, NOT_YET, NOT_YET);
        x.run(2);
        due.job(x, 8, 0, 0, NOT_YET, NOT_YET);
        x.run(1);
        due.job(x, 8, 1, 0, NOT_YET, NOT_YET);
        x.run(1);
        due.job(x, 8, 1, 0, NOT_YET, NOT_YET);
        due.job(x, 7, 3, 420, 0, 3);
        x.run(1);
        due.job(x, 8, 2, 840, 4, NOT_YET);
        x.run(1);
        due.job(x, 8, 2, 1680, 4, NOT_YET);
        x.run(1);
        due.job(x, 8, 3, 2000, 4, 6);
        x.run(100);
        due.job(x, 8, 3, 2000, 4, 6);
    }

    private static void goneFromEveryState(Due due) {
        due.says("A job that was taken away has the state GONE and keeps what it had.");
        ProcessorSharing x = new ProcessorSharing();
        for (int job = 0; job < 10; job++) {
            x.submit(9000, 0);
        }
        x.submit(9000, 50);
        x.run(3);
        x.cancel(4);
        x.cancel(9);
        x.cancel(10);
        due.job(x, 4, 4, 315, 0, NOT_YET);
        due.job(x, 9, 4, 0, NOT_YET, NOT_YET);
        due.job(x, 10, 4, 0, NOT_YET, NOT_YET);
        x.run(5000);
        due.job(x, 4, 4, 315, 0, NOT_YET);
        due.job(x, 9, 4, 0, NOT_YET, NOT_YET);
        due.job(x, 10, 4, 0, NOT_YET, NOT_YET);
        due.is("state(8)", x.state(8), 3);
    }
}
