import java.util.function.ToIntFunction;

/** "Terms": the calls from now on to waiting change nothing. */
public final class QuestionsTest {
    private static final int NOT_YET = ProcessorSharing.NOT_YET;
    private static final int ARRIVES_NOW = Scene.JOBS;
    private static final int JOBS = Scene.JOBS + 1;

    public static void main(String[] args) {
        Due due = new Due();
        noQuestionChangesAnything(due);
        refusedQuestionsChangeNothing(due);
        askingBetweenTicksChangesNothing(due);
        due.end();
    }

    /** A question that let jobs arrive would show in the job that arrives in the present tick. */
    private static ProcessorSharing begin() {
        ProcessorSharing x = Scene.ofEveryState();
        x.submit(50, 0);
        return x;
    }

    /**
     * The known rows come first: a twin is asked the same questions, so it alone can't show what a
     * question changes once and no more.
     */
    private static void unchangedBy(Due due, ToIntFunction<ProcessorSharing> question) {
        ProcessorSharing x = begin();
        due.is("the same question again", question.applyAsInt(x), question.applyAsInt(x));
        rowsAreAsAtTheBeginning(due, x);
        due.alikeFromNowOn(x, begin(), JOBS);
    }

    private static void rowsAreAsAtTheBeginning(Due due, ProcessorSharing x) {
        due.job(x, ARRIVES_NOW, 0, 0, NOT_YET, NOT_YET);
        due.job(x, Scene.NOT_ARRIVED, 0, 0, NOT_YET, NOT_YET);
        due.job(x, Scene.IN_LINE, 1, 0, NOT_YET, NOT_YET);
        due.job(x, Scene.SERVED, 2, 210, 0, NOT_YET);
        due.job(x, Scene.LAST_SERVED, 2, 105, 1, NOT_YET);
        due.job(x, Scene.FINISHED, 3, 1, 0, 0);
        due.job(x, Scene.GONE, 4, 210, 0, NOT_YET);
        due.noJob(x, JOBS);
        due.server(x, 2, 7, 3);
    }

    private static void noQuestionChangesAnything(Due due) {
        due.says("The calls below change nothing.");
        unchangedBy(due, x -> x.now());
        unchangedBy(due, x -> x.served());
        unchangedBy(due, x -> x.waiting());
        for (int number = 0; number < JOBS; number++) {
            int job = number;
            unchangedBy(due, x -> x.state(job));
            unchangedBy(due, x -> x.had(job));
            unchangedBy(due, x -> x.admitted(job));
            unchangedBy(due, x -> x.finished(job));
        }
    }

    private static void refusedQuestionsChangeNothing(Due due) {
        due.says("The calls below change nothing.");
        int[] wrong = {-1, JOBS, 24};
        for (int job : wrong) {
            unchangedBy(due, x -> x.state(job));
            unchangedBy(due, x -> x.had(job));
            unchangedBy(due, x -> x.admitted(job));
            unchangedBy(due, x -> x.finished(job));
        }
    }

    private static void askingBetweenTicksChangesNothing(Due due) {
        due.says("The calls below change nothing.");
        ProcessorSharing asked = new ProcessorSharing();
        ProcessorSharing quiet = new ProcessorSharing();
        for (int job = 0; job < 12; job++) {
            asked.submit(100 + 90 * job, job / 3);
            quiet.submit(100 + 90 * job, job / 3);
        }
        for (int tick = 0; tick < 12; tick++) {
            asked.state(tick);
            asked.had(tick);
            asked.admitted(tick);
            asked.finished(tick);
            asked.served();
            asked.waiting();
            asked.now();
            due.is("run(1)", asked.run(1), quiet.run(1));
        }
        due.alike(asked, quiet, 12);
    }
}
