/** "Terms": what happens in a tick. */
public final class TickTest {
    private static final int NOT_YET = ProcessorSharing.NOT_YET;
    private static final int[] SHARES = {840, 420, 280, 210, 168, 140, 120, 105};

    public static void main(String[] args) {
        Due due = new Due();
        doesAllItsUnitsInEveryTick(due);
        doesNothingWithoutJobs(due);
        servesAtMostEight(due);
        otherJobsWaitInALine(due);
        arrivalsJoinTheEndOfTheLine(due);
        lineGoesByArrivalNotByNumber(due);
        lineGoesByNumberWithinATick(due);
        jobsArriveAheadOfAdmission(due);
        admitsWhileFewerThanEightAreServed(due);
        admitsUntilTheLineIsEmpty(due);
        admitsNobodyWhileEightAreServed(due);
        admitsInTheNextTickAfterAFinish(due);
        sharesEqually(due);
        admittedJobsShareAtOnce(due);
        finishedJobsShareTheirLastTick(due);
        jobThatNeedsLessThanItsShare(due);
        jobThatNeedsItsShare(due);
        jobThatNeedsMoreThanItsShare(due);
        needIsWhatIsLeftOfTheSize(due);
        whatAJobDoesNotNeedIsLost(due);
        due.end();
    }

    private static void doesAllItsUnitsInEveryTick(Due due) {
        due.says("in every tick the server does 840 UNITS of work if it serves any job");
        for (int count = 1; count <= 24; count++) {
            ProcessorSharing x = Scene.withJobs(count, 100000, 0);
            for (int tick = 1; tick <= 3; tick++) {
                x.run(1);
                int units = 0;
                for (int job = 0; job < count; job++) {
                    units += x.had(job);
                }
                due.is("units of " + count + " jobs", units, 840 * tick);
            }
        }
    }

    /** Idle ticks are not saved up for a job that comes later. */
    private static void doesNothingWithoutJobs(Due due) {
        due.says("If m > 0 jobs are served");
        ProcessorSharing x = new ProcessorSharing();
        due.is("run(3) without jobs", x.run(3), 0);
        due.server(x, 3, 0, 0);
        x.submit(2000, 2);
        due.is("run(2) ahead of the arrival", x.run(2), 0);
        due.job(x, 0, 0, 0, NOT_YET, NOT_YET);
        x.run(1);
        due.job(x, 0, 2, 840, 5, NOT_YET);
        due.is("run(2)", x.run(2), 1);
        due.is("run(2) after the last finish", x.run(2), 0);
        due.job(x, 0, 3, 2000, 5, 7);
        due.server(x, 10, 0, 0);
    }

    private static void servesAtMostEight(Due due) {
        due.says("It serves at most eight jobs at once");
        int[] counts = {1, 7, 8, 9, 16, 24};
        int[] served = {1, 7, 8, 8, 8, 8};
        for (int i = 0; i < counts.length; i++) {
            ProcessorSharing x = Scene.withJobs(counts[i], 100000, 0);
            x.run(1);
            due.server(x, 1, served[i], counts[i] - served[i]);
            due.is("state(" + (served[i] - 1) + ")", x.state(served[i] - 1), 2);
            x.run(50);
            due.server(x, 51, served[i], counts[i] - served[i]);
        }
    }

    private static void otherJobsWaitInALine(Due due) {
        due.says("others wait in a line");
        ProcessorSharing x = Scene.withJobs(24, 106, 0);
        due.is("run(1)", x.run(1), 0);
        due.server(x, 1, 8, 16);
        due.job(x, 7, 2, 105, 0, NOT_YET);
        due.job(x, 8, 1, 0, NOT_YET, NOT_YET);
        due.is("run(1)", x.run(1), 8);
        due.server(x, 2, 0, 16);
        due.is("run(1)", x.run(1), 0);
        due.server(x, 3, 8, 8);
        due.is("run(3)", x.run(3), 16);
        due.server(x, 6, 0, 0);
        due.job(x, 8, 3, 106, 2, 3);
        due.job(x, 15, 3, 106, 2, 3);
        due.job(x, 16, 3, 106, 4, 5);
        due.job(x, 23, 3, 106, 4, 5);
    }

    /** Job 8 waits since tick 0; 9 joins in tick 1 and 10 in tick 2, each behind those before. */
    private static void arrivalsJoinTheEndOfTheLine(Due due) {
        due.says("Every job that arrives in this tick joins the end of the line");
        ProcessorSharing x = Scene.withJobs(9, 100000, 0);
        x.submit(100000, 1);
        x.submit(100000, 2);
        int[] waiting = {1, 2, 3};
        for (int tick = 0; tick < 3; tick++) {
            x.run(1);
            due.is("waiting() after tick " + tick, x.waiting(), waiting[tick]);
        }
        for (int job = 0; job < 3; job++) {
            x.cancel(job);
            x.run(1);
            due.is("admitted(" + (8 + job) + ")", x.admitted(8 + job), 3 + job);
        }
    }

    /** Job 8 has the lowest number in the line and the latest arrival. */
    private static void lineGoesByArrivalNotByNumber(Due due) {
        due.says("Every job that arrives in this tick joins the end of the line");
        ProcessorSharing x = Scene.withJobs(1, 525, 0);
        Scene.submitMore(x, 7, 1050, 0);
        x.submit(7000, 3);
        x.submit(7000, 2);
        x.submit(7000, 1);
        x.run(5);
        due.server(x, 5, 7, 3);
        x.run(1);
        due.job(x, 10, 2, 105, 5, NOT_YET);
        due.job(x, 9, 1, 0, NOT_YET, NOT_YET);
        due.job(x, 8, 1, 0, NOT_YET, NOT_YET);
        x.cancel(1);
        x.run(1);
        due.is("admitted(9)", x.admitted(9), 6);
        due.is("admitted(8)", x.admitted(8), NOT_YET);
    }

    /** Jobs 8 and 9 arrive in one tick, though they are submitted at different times. */
    private static void lineGoesByNumberWithinATick(Due due) {
        due.says("in the order in which the jobs were submitted");
        ProcessorSharing x = Scene.withJobs(8, 10000, 0);
        x.submit(10000, 4);
        x.run(4);
        x.submit(10000, 0);
        x.run(2);
        due.server(x, 6, 8, 2);
        x.cancel(2);
        x.run(1);
        due.is("admitted(8)", x.admitted(8), 6);
        due.is("admitted(9)", x.admitted(9), NOT_YET);
        x.cancel(3);
        x.run(1);
        due.is("admitted(9)", x.admitted(9), 7);
    }

    /** Job 9 arrives in the tick in which a place comes free, and job 8 is still ahead of it. */
    private static void jobsArriveAheadOfAdmission(Due due) {
        due.says("WHAT HAPPENS IN A TICK, in this order");
        ProcessorSharing x = Scene.withJobs(9, 100000, 0);
        x.run(1);
        x.submit(100000, 0);
        x.submit(100000, 0);
        x.cancel(0);
        x.cancel(1);
        x.run(1);
        due.is("admitted(8)", x.admitted(8), 1);
        due.job(x, 9, 2, 105, 1, NOT_YET);
        due.job(x, 10, 1, 0, NOT_YET, NOT_YET);
    }

    /** So many places come free, and so many jobs are admitted, all in one tick. */
    private static void admitsWhileFewerThanEightAreServed(Due due) {
        due.says("While fewer than eight jobs are served .. the job at the front of the line is admitted");
        for (int free = 0; free <= 8; free++) {
            ProcessorSharing x = Scene.withJobs(24, 100000, 0);
            x.run(1);
            for (int job = 0; job < free; job++) {
                x.cancel(job);
            }
            due.server(x, 1, 8 - free, 16);
            x.run(1);
            due.server(x, 2, 8, 16 - free);
            for (int job = 8; job < 24; job++) {
                due.is("admitted(" + job + ")", x.admitted(job), job < 8 + free ? 1 : NOT_YET);
            }
        }
    }

    private static void admitsUntilTheLineIsEmpty(Due due) {
        due.says("While .. the line is not empty, the job at the front of the line is admitted");
        for (int inLine = 0; inLine <= 8; inLine++) {
            ProcessorSharing x = Scene.withJobs(8 + inLine, 105, 0);
            due.is("run(1)", x.run(1), 8);
            due.server(x, 1, 0, inLine);
            due.is("run(1)", x.run(1), inLine);
            due.server(x, 2, 0, 0);
            for (int job = 8; job < 8 + inLine; job++) {
                due.job(x, job, 3, 105, 1, 1);
            }
        }
    }

    private static void admitsNobodyWhileEightAreServed(Due due) {
        due.says("While fewer than eight jobs are served");
        ProcessorSharing x = Scene.withJobs(8, 10500, 0);
        x.submit(5, 1);
        due.is("run(99)", x.run(99), 0);
        due.job(x, 8, 1, 0, NOT_YET, NOT_YET);
        due.is("run(1)", x.run(1), 8);
        due.job(x, 8, 1, 0, NOT_YET, NOT_YET);
        due.is("run(1)", x.run(1), 1);
        due.job(x, 8, 3, 5, 100, 100);
    }

    private static void admitsInTheNextTickAfterAFinish(Due due) {
        due.says("it is served from this tick on");
        ProcessorSharing x = Scene.withJobs(7, 1000, 0);
        x.submit(105, 0);
        x.submit(1000, 0);
        due.is("run(1)", x.run(1), 1);
        due.server(x, 1, 7, 1);
        due.job(x, 8, 1, 0, NOT_YET, NOT_YET);
        x.run(1);
        due.job(x, 8, 2, 105, 1, NOT_YET);
        due.job(x, 0, 2, 210, 0, NOT_YET);
    }

    private static void sharesEqually(Due due) {
        due.says("each of them gets 840 / m units of work in this tick");
        for (int m = 1; m <= 8; m++) {
            ProcessorSharing x = Scene.withJobs(m, 100000, 0);
            for (int tick = 1; tick <= 2; tick++) {
                due.is("run(1) with " + m, x.run(1), 0);
                for (int job = 0; job < m; job++) {
                    due.job(x, job, 2, SHARES[m - 1] * tick, 0, NOT_YET);
                }
            }
        }
    }

    /** Job 1 is counted among the sharers of the tick in which it arrives. */
    private static void admittedJobsShareAtOnce(Due due) {
        due.says("it is served from this tick on");
        ProcessorSharing x = Scene.withJobs(1, 100000, 0);
        x.submit(100000, 1);
        x.run(1);
        due.job(x, 0, 2, 840, 0, NOT_YET);
        x.run(1);
        due.job(x, 0, 2, 1260, 0, NOT_YET);
        due.job(x, 1, 2, 420, 1, NOT_YET);
    }

    private static void finishedJobsShareTheirLastTick(Due due) {
        due.says("is finished at the end of this tick and leaves");
        ProcessorSharing x = Scene.withJobs(1, 5, 0);
        x.submit(100000, 0);
        due.is("run(1)", x.run(1), 1);
        due.job(x, 1, 2, 420, 0, NOT_YET);
        due.is("served()", x.served(), 1);
        due.is("run(1)", x.run(1), 0);
        due.job(x, 1, 2, 1260, 0, NOT_YET);
        due.job(x, 0, 3, 5, 0, 0);
    }

    /** One job of the given size among m - 1 great ones; the first tick alone is worked. */
    private static ProcessorSharing oneTickAmong(int m, int size) {
        ProcessorSharing x = Scene.withJobs(1, size, 0);
        Scene.submitMore(x, m - 1, 100000, 0);
        return x;
    }

    private static void jobThatNeedsLessThanItsShare(Due due) {
        due.says("A job that needs no more than that is finished at the end of this tick");
        for (int m = 1; m <= 8; m++) {
            ProcessorSharing x = oneTickAmong(m, SHARES[m - 1] - 1);
            due.is("run(1) with " + m, x.run(1), 1);
            due.job(x, 0, 3, SHARES[m - 1] - 1, 0, 0);
            due.is("served()", x.served(), m - 1);
        }
    }

    private static void jobThatNeedsItsShare(Due due) {
        due.says("A job that needs no more than that is finished at the end of this tick");
        for (int m = 1; m <= 8; m++) {
            ProcessorSharing x = oneTickAmong(m, SHARES[m - 1]);
            due.is("run(1) with " + m, x.run(1), 1);
            due.job(x, 0, 3, SHARES[m - 1], 0, 0);
            due.is("served()", x.served(), m - 1);
        }
    }

    private static void jobThatNeedsMoreThanItsShare(Due due) {
        due.says("A job that needs no more than that is finished at the end of this tick");
        for (int m = 1; m <= 8; m++) {
            ProcessorSharing x = oneTickAmong(m, SHARES[m - 1] + 1);
            due.is("run(1) with " + m, x.run(1), 0);
            due.job(x, 0, 2, SHARES[m - 1], 0, NOT_YET);
            due.is("served()", x.served(), m);
            due.is("run(1) with " + m, x.run(1), 1);
            due.job(x, 0, 3, SHARES[m - 1] + 1, 0, 1);
        }
    }

    /** The last tick's need is below, at and above the share; the sizes are around three shares. */
    private static void needIsWhatIsLeftOfTheSize(Due due) {
        due.says("A job that needs no more than that is finished at the end of this tick");
        for (int over = -1; over <= 1; over++) {
            int size = 3 * 840 + over;
            ProcessorSharing x = Scene.withJobs(1, size, 0);
            due.is("run(2)", x.run(2), 0);
            due.job(x, 0, 2, 1680, 0, NOT_YET);
            due.is("run(1)", x.run(1), over <= 0 ? 1 : 0);
            due.is("had(0)", x.had(0), over <= 0 ? size : 2520);
            due.is("run(1)", x.run(1), over <= 0 ? 0 : 1);
            due.job(x, 0, 3, size, 0, over <= 0 ? 2 : 3);
        }
    }

    private static void whatAJobDoesNotNeedIsLost(Due due) {
        due.says("what it didn't need is lost");
        ProcessorSharing x = Scene.withJobs(1, 1, 0);
        x.submit(840, 0);
        x.submit(1, 0);
        due.is("run(1)", x.run(1), 2);
        due.job(x, 0, 3, 1, 0, 0);
        due.job(x, 1, 2, 280, 0, NOT_YET);
        due.job(x, 2, 3, 1, 0, 0);
        due.is("run(1)", x.run(1), 1);
        due.job(x, 1, 3, 840, 0, 1);
        x.submit(841, 0);
        due.is("run(1), nothing left over", x.run(1), 0);
        due.job(x, 3, 2, 840, 2, NOT_YET);
    }
}
