/** Compares answers with the ones that are due, and ends the test with exit code 1 if one differs. */
final class Due {
    private int compared = 0;
    private int wrong = 0;

    void is(String call, long got, long want) {
        compared++;
        if (got != want) {
            wrong++;
            System.out.println(call + " answered " + got + ", due is " + want);
        }
    }

    void holds(String claim, boolean held) {
        compared++;
        if (!held) {
            wrong++;
            System.out.println("does not hold: " + claim);
        }
    }

    /** All that can be asked of one job, in one row. */
    void job(ProcessorSharing x, int job, int state, int had, int admitted, int finished) {
        is("state(" + job + ")", x.state(job), state);
        is("had(" + job + ")", x.had(job), had);
        is("admitted(" + job + ")", x.admitted(job), admitted);
        is("finished(" + job + ")", x.finished(job), finished);
    }

    void noJob(ProcessorSharing x, int job) {
        int no = ProcessorSharing.NO_JOB;
        job(x, job, no, no, no, no);
    }

    /** All that can be asked of the server, in one row. */
    void server(ProcessorSharing x, int now, int served, int waiting) {
        is("now()", x.now(), now);
        is("served()", x.served(), served);
        is("waiting()", x.waiting(), waiting);
    }

    void end() {
        System.out.println(wrong == 0
                ? "all " + compared + " answers are as due"
                : wrong + " of " + compared + " answers are not as due");
        if (wrong != 0 || compared == 0) {
            System.exit(1);
        }
    }
}
