import java.util.function.ToIntFunction;

/** "Terms": the calls from now on to waiting change nothing. */
public final class QuestionsTest {
    public static void main(String[] args) {
        Due due = new Due();
        noQuestionChangesAnything(due);
        refusedQuestionsChangeNothing(due);
        askingBetweenTicksChangesNothing(due);
        askingAgainAnswersTheSame(due);
        due.end();
    }

    private static void unchangedBy(Due due, ToIntFunction<ProcessorSharing> question) {
        ProcessorSharing x = Scene.ofEveryState();
        question.applyAsInt(x);
        due.alikeFromNowOn(x, Scene.ofEveryState(), Scene.JOBS);
    }

    private static void noQuestionChangesAnything(Due due) {
        due.says("The calls below change nothing.");
        unchangedBy(due, x -> x.now());
        unchangedBy(due, x -> x.served());
        unchangedBy(due, x -> x.waiting());
        int[] jobs = {Scene.FINISHED, Scene.GONE, Scene.SERVED, Scene.IN_LINE, Scene.NOT_ARRIVED};
        for (int job : jobs) {
            unchangedBy(due, x -> x.state(job));
            unchangedBy(due, x -> x.had(job));
            unchangedBy(due, x -> x.admitted(job));
            unchangedBy(due, x -> x.finished(job));
        }
    }

    private static void refusedQuestionsChangeNothing(Due due) {
        due.says("The calls below change nothing.");
        int[] wrong = {-1, Scene.JOBS, 24};
        for (int job : wrong) {
            unchangedBy(due, x -> x.state(job));
            unchangedBy(due, x -> x.had(job));
            unchangedBy(due, x -> x.admitted(job));
            unchangedBy(due, x -> x.finished(job));
        }
    }

    private static void askingBetweenTicksChangesNothing(Due due) {
        due.says("The calls below change nothing.");
        ProcessorSharing asked = new ProcessorSharing();
        ProcessorSharing quiet = new ProcessorSharing();
        for (int job = 0; job < 12; job++) {
            asked.submit(100 + 90 * job, job / 3);
            quiet.submit(100 + 90 * job, job / 3);
        }
        for (int tick = 0; tick < 12; tick++) {
            asked.state(tick);
            asked.had(tick);
            asked.admitted(tick);
            asked.finished(tick);
            asked.served();
            asked.waiting();
            asked.now();
            due.is("run(1)", asked.run(1), quiet.run(1));
        }
        due.alike(asked, quiet, 12);
    }

    private static void askingAgainAnswersTheSame(Due due) {
        due.says("The calls below change nothing.");
        ProcessorSharing x = Scene.ofEveryState();
        for (int i = 0; i < 2; i++) {
            due.server(x, 2, 7, 3);
            due.job(x, Scene.FINISHED, 3, 1, 0, 0);
            due.job(x, Scene.GONE, 4, 210, 0, ProcessorSharing.NOT_YET);
            due.job(x, Scene.SERVED, 2, 210, 0, ProcessorSharing.NOT_YET);
            due.job(x, Scene.IN_LINE, 1, 0, ProcessorSharing.NOT_YET, ProcessorSharing.NOT_YET);
            due.job(x, Scene.NOT_ARRIVED, 0, 0, ProcessorSharing.NOT_YET, ProcessorSharing.NOT_YET);
            due.noJob(x, Scene.JOBS);
        }
    }
}
