/** Promise 4: run, and with it what happens in a tick. */
public final class RunTest {
    private static final int NOT_YET = ProcessorSharing.NOT_YET;

    public static void main(String[] args) {
        Due due = new Due();
        boundsTheTicks(due);
        countsTheFinished(due);
        sharesEqually(due);
        whatAJobDoesNotNeedIsLost(due);
        servesAtMostEight(due);
        admitsInTheNextTickAfterAFinish(due);
        lineGoesByArrivalNotByNumber(due);
        lineGoesByNumberWithinATick(due);
        idleTicksAreWorkedToo(due);
        ticksDoNotDependOnHowTheyAreCalled(due);
        due.end();
    }

    private static void boundsTheTicks(Due due) {
        ProcessorSharing x = new ProcessorSharing();
        x.submit(1, 0);
        int[] none = {0, -1, -5000, Integer.MIN_VALUE};
        for (int n : none) {
            due.is("run(" + n + ")", x.run(n), 0);
            due.server(x, 0, 0, 0);
            due.is("state(0)", x.state(0), 0);
        }
        due.is("run(1)", x.run(1), 1);
        due.is("now()", x.now(), 1);
        x.run(4999);
        due.is("now() after run(4999)", x.now(), 5000);
        x.run(5000);
        due.is("now() after run(5000)", x.now(), 10000);
        x.run(5001);
        due.is("now() after run(5001)", x.now(), 15000);
        x.run(Integer.MAX_VALUE);
        due.is("now() after the greatest run", x.now(), 20000);
    }

    private static void countsTheFinished(Due due) {
        ProcessorSharing x = new ProcessorSharing();
        x.submit(420, 0);
        x.submit(420, 0);
        x.submit(840, 3);
        x.submit(1681, 4);
        due.is("run(1)", x.run(1), 2);
        due.is("run(1)", x.run(1), 0);
        due.is("run(2)", x.run(2), 1);
        due.is("run(2)", x.run(2), 0);
        due.is("run(1)", x.run(1), 1);
        due.is("run(5000)", x.run(5000), 0);
    }

    private static void sharesEqually(Due due) {
        int[] shares = {840, 420, 280, 210, 168, 140, 120, 105};
        for (int m = 1; m <= 8; m++) {
            ProcessorSharing x = new ProcessorSharing();
            int share = shares[m - 1];
            x.submit(share, 0);
            for (int job = 1; job < m; job++) {
                x.submit(job == 1 ? share + 1 : 100000, 0);
            }
            due.is("run(1) with " + m, x.run(1), 1);
            due.job(x, 0, 3, share, 0, 0);
            for (int job = 1; job < m; job++) {
                due.job(x, job, 2, share, 0, NOT_YET);
            }
            due.is("served()", x.served(), m - 1);
        }
    }

    private static void whatAJobDoesNotNeedIsLost(Due due) {
        ProcessorSharing x = new ProcessorSharing();
        x.submit(1, 0);
        x.submit(840, 0);
        x.submit(1, 0);
        due.is("run(1)", x.run(1), 2);
        due.job(x, 0, 3, 1, 0, 0);
        due.job(x, 1, 2, 280, 0, NOT_YET);
        due.is("run(1)", x.run(1), 1);
        due.job(x, 1, 3, 840, 0, 1);
    }

    private static void servesAtMostEight(Due due) {
        ProcessorSharing x = new ProcessorSharing();
        for (int job = 0; job < 24; job++) {
            x.submit(106, 0);
        }
        due.is("run(1)", x.run(1), 0);
        due.server(x, 1, 8, 16);
        due.job(x, 7, 2, 105, 0, NOT_YET);
        due.job(x, 8, 1, 0, NOT_YET, NOT_YET);
        due.is("run(1)", x.run(1), 8);
        due.server(x, 2, 0, 16);
        due.is("run(1)", x.run(1), 0);
        due.server(x, 3, 8, 8);
        due.is("run(3)", x.run(3), 16);
        due.server(x, 6, 0, 0);
        due.job(x, 8, 3, 106, 2, 3);
        due.job(x, 23, 3, 106, 4, 5);
    }

    private static void admitsInTheNextTickAfterAFinish(Due due) {
        ProcessorSharing x = new ProcessorSharing();
        for (int job = 0; job < 8; job++) {
            x.submit(job == 5 ? 105 : 1000, 0);
        }
        x.submit(1000, 0);
        due.is("run(1)", x.run(1), 1);
        due.server(x, 1, 7, 1);
        due.job(x, 8, 1, 0, NOT_YET, NOT_YET);
        x.run(1);
        due.job(x, 8, 2, 105, 1, NOT_YET);
        due.job(x, 0, 2, 210, 0, NOT_YET);
    }

    /** Job 8 has the lowest number in the line and the latest arrival. */
    private static void lineGoesByArrivalNotByNumber(Due due) {
        ProcessorSharing x = new ProcessorSharing();
        for (int job = 0; job < 8; job++) {
            x.submit(job == 0 ? 525 : 1050, 0);
        }
        x.submit(7000, 3);
        x.submit(7000, 2);
        x.submit(7000, 1);
        x.run(5);
        due.server(x, 5, 7, 3);
        x.run(1);
        due.job(x, 10, 2, 105, 5, NOT_YET);
        due.job(x, 9, 1, 0, NOT_YET, NOT_YET);
        due.job(x, 8, 1, 0, NOT_YET, NOT_YET);
        x.cancel(1);
        x.run(1);
        due.is("admitted(9)", x.admitted(9), 6);
        due.is("admitted(8)", x.admitted(8), NOT_YET);
    }

    /** Jobs 8 and 9 arrive in one tick, though they are submitted at different times. */
    private static void lineGoesByNumberWithinATick(Due due) {
        ProcessorSharing x = new ProcessorSharing();
        for (int job = 0; job < 8; job++) {
            x.submit(10000, 0);
        }
        x.submit(10000, 4);
        x.run(4);
        x.submit(10000, 0);
        x.run(2);
        due.server(x, 6, 8, 2);
        x.cancel(2);
        x.run(1);
        due.is("admitted(8)", x.admitted(8), 6);
        due.is("admitted(9)", x.admitted(9), NOT_YET);
        x.cancel(3);
        x.run(1);
        due.is("admitted(9)", x.admitted(9), 7);
    }

    private static void idleTicksAreWorkedToo(Due due) {
        ProcessorSharing x = new ProcessorSharing();
        x.submit(841, 5);
        due.is("run(5)", x.run(5), 0);
        due.server(x, 5, 0, 0);
        due.job(x, 0, 0, 0, NOT_YET, NOT_YET);
        due.is("run(1)", x.run(1), 0);
        due.job(x, 0, 2, 840, 5, NOT_YET);
        due.is("run(1)", x.run(1), 1);
        due.job(x, 0, 3, 841, 5, 6);
    }

    private static void ticksDoNotDependOnHowTheyAreCalled(Due due) {
        ProcessorSharing whole = new ProcessorSharing();
        ProcessorSharing single = new ProcessorSharing();
        for (int job = 0; job < 24; job++) {
            int size = 300 + job * 217 % 1000;
            int after = job * 7 % 10;
            whole.submit(size, after);
            single.submit(size, after);
        }
        int ended = 0;
        for (int tick = 0; tick < 25; tick++) {
            ended += single.run(1);
        }
        due.is("run(25)", whole.run(25), ended);
        for (int job = 0; job < 24; job++) {
            due.job(whole, job, single.state(job), single.had(job),
                    single.admitted(job), single.finished(job));
        }
        due.server(whole, 25, single.served(), single.waiting());
    }
}
