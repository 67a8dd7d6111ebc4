/** Compares answers with the ones that are due, and ends the test with exit code 1 if one differs. */
final class Due {
    private String sentence = "";
    private int compared = 0;
    private int wrong = 0;

    /** The document's words that the comparisons after this call look at. */
    void says(String words) {
        sentence = "\"" + words + "\": ";
    }

    void is(String call, long got, long want) {
        compared++;
        if (got != want) {
            wrong++;
            System.out.println(sentence + call + " answered " + got + ", due is " + want);
        }
    }

    void holds(String claim, boolean held) {
        compared++;
        if (!held) {
            wrong++;
            System.out.println(sentence + "does not hold: " + claim);
        }
    }

    /** All that can be asked of one job, in one row. */
    void job(ProcessorSharing x, int job, int state, int had, int admitted, int finished) {
        is("state(" + job + ")", x.state(job), state);
        is("had(" + job + ")", x.had(job), had);
        is("admitted(" + job + ")", x.admitted(job), admitted);
        is("finished(" + job + ")", x.finished(job), finished);
    }

    void noJob(ProcessorSharing x, int job) {
        int no = ProcessorSharing.NO_JOB;
        job(x, job, no, no, no, no);
    }

    /** All that can be asked of the server, in one row. */
    void server(ProcessorSharing x, int now, int served, int waiting) {
        is("now()", x.now(), now);
        is("served()", x.served(), served);
        is("waiting()", x.waiting(), waiting);
    }

    interface Question {
        int ask(ProcessorSharing x, int job);
    }

    /** Asks of the numbers on both sides of those of the jobs, when there are none, some and all 24. */
    void onlyJobsAnswer(String call, Question question, int dueOfNewJob) {
        int[] counts = {0, 1, 2, 23, 24};
        for (int count : counts) {
            ProcessorSharing x = Scene.withJobs(count, 10, 0);
            int[] wrong = {-1, -2, count, count + 1, 24, 25, Integer.MIN_VALUE, Integer.MAX_VALUE};
            for (int job : wrong) {
                is(call + "(" + job + ") of " + count + " jobs", question.ask(x, job), ProcessorSharing.NO_JOB);
            }
            for (int job = 0; job < count; job++) {
                is(call + "(" + job + ") of " + count + " jobs", question.ask(x, job), dueOfNewJob);
            }
        }
    }

    /** All that can be asked of both, up to the first number that may be no job's. */
    void alike(ProcessorSharing x, ProcessorSharing twin, int jobs) {
        server(x, twin.now(), twin.served(), twin.waiting());
        for (int job = 0; job <= jobs; job++) {
            job(x, job, twin.state(job), twin.had(job), twin.admitted(job), twin.finished(job));
        }
    }

    /** Alike now and later: what a call changed inside may show only in the ticks that follow. */
    void alikeFromNowOn(ProcessorSharing x, ProcessorSharing twin, int jobs) {
        alike(x, twin, jobs);
        is("run(1)", x.run(1), twin.run(1));
        is("run(2)", x.run(2), twin.run(2));
        alike(x, twin, jobs);
        is("run(3000)", x.run(3000), twin.run(3000));
        is("submit(5, 1)", x.submit(5, 1), twin.submit(5, 1));
        alike(x, twin, jobs);
    }

    void end() {
        System.out.println(wrong == 0
                ? "all " + compared + " answers are as due"
                : wrong + " of " + compared + " answers are not as due");
        if (wrong != 0 || compared == 0) {
            System.exit(1);
        }
    }
}
