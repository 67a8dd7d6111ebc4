/** Promise 9: admitted. */
public final class AdmittedTest {
    private static final int NOT_YET = ProcessorSharing.NOT_YET;

    public static void main(String[] args) {
        Due due = new Due();
        tellsTheTick(due);
        staysAfterTheFinish(due);
        notYetAheadOfAdmission(due);
        notYetWhenTakenAwayAheadOfIt(due);
        staysWhenTakenAwayAfterIt(due);
        tellsWhatIsNoJob(due);
        due.end();
    }

    /** The tick of the admission is neither that of the submission nor that of the arrival. */
    private static void tellsTheTick(Due due) {
        due.says("The tick in which the job was admitted");
        ProcessorSharing x = Scene.withJobs(8, 420, 0);
        x.run(1);
        x.submit(5000, 2);
        x.submit(5000, 90);
        due.is("admitted(0)", x.admitted(0), 0);
        due.is("run(3)", x.run(3), 8);
        due.is("admitted(8) in the line", x.admitted(8), NOT_YET);
        x.run(1);
        due.is("admitted(8)", x.admitted(8), 4);
        x.run(1);
        due.is("admitted(8) a tick later", x.admitted(8), 4);
        x.run(85);
        due.is("admitted(9) ahead of its arrival", x.admitted(9), NOT_YET);
        x.run(1);
        due.is("admitted(9)", x.admitted(9), 91);
    }

    private static void staysAfterTheFinish(Due due) {
        due.says("The tick in which the job was admitted");
        ProcessorSharing x = Scene.withJobs(1, 2000, 3);
        due.is("run(6)", x.run(6), 1);
        due.is("admitted(0)", x.admitted(0), 3);
        x.run(100);
        due.is("admitted(0) later", x.admitted(0), 3);
    }

    private static void notYetAheadOfAdmission(Due due) {
        due.says("NOT_YET if it was not");
        ProcessorSharing x = Scene.withJobs(1, 5, 0);
        due.is("admitted(0), arrives in the present tick", x.admitted(0), NOT_YET);
        x = Scene.ofEveryState();
        due.is("admitted, not arrived", x.admitted(Scene.NOT_ARRIVED), NOT_YET);
        due.is("admitted, in the line", x.admitted(Scene.IN_LINE), NOT_YET);
        due.is("admitted, served", x.admitted(Scene.SERVED), 0);
        due.is("admitted, served a tick later", x.admitted(Scene.LAST_SERVED), 1);
    }

    private static void notYetWhenTakenAwayAheadOfIt(Due due) {
        due.says("NOT_YET if it was not");
        int[] taken = {Scene.IN_LINE, Scene.NOT_ARRIVED};
        for (int job : taken) {
            ProcessorSharing x = Scene.ofEveryState();
            x.cancel(job);
            due.is("admitted(" + job + "), gone", x.admitted(job), NOT_YET);
            x.run(5000);
            due.is("admitted(" + job + "), long gone", x.admitted(job), NOT_YET);
        }
    }

    private static void staysWhenTakenAwayAfterIt(Due due) {
        due.says("The tick in which the job was admitted");
        ProcessorSharing x = Scene.ofEveryState();
        x.cancel(Scene.LAST_SERVED);
        due.is("admitted, gone", x.admitted(Scene.LAST_SERVED), 1);
        x.run(5000);
        due.is("admitted, long gone", x.admitted(Scene.LAST_SERVED), 1);
    }

    private static void tellsWhatIsNoJob(Due due) {
        due.says("NO_JOB");
        due.onlyJobsAnswer("admitted", ProcessorSharing::admitted, NOT_YET);
    }
}
