/** Long mixed runs of calls, compared call by call with a model of the document. */
public final class ModelTest {
    private static final int RUNS = 2000;
    private static final int MOST_CALLS = 512;

    private static final int[] SIZES = {1, 104, 105, 106, 120, 140, 210, 420, 840, 841, 1680, 2520};
    private static final int[] TICKS = {-1, 0, 1, 1, 1, 1, 2, 2, 3, 5, 9, 20};

    // A fixed sequence, so that every run of the test makes the same calls.
    private long sequence = 20261115;

    public static void main(String[] args) {
        Due due = new Due();
        ModelTest test = new ModelTest();
        for (int run = 0; run < RUNS; run++) {
            test.compareOneRun(due, run);
        }
        due.end();
    }

    private int below(int bound) {
        sequence = sequence * 6364136223846793005L + 1442695040888963407L;
        return (int) ((sequence >>> 33) % bound);
    }

    /** Every second run submits in bursts, so that the line is often long. */
    private void compareOneRun(Due due, int run) {
        ProcessorSharing x = new ProcessorSharing();
        Model model = new Model();
        int calls = 0;
        boolean bursts = run % 2 == 0;
        while (calls < MOST_CALLS) {
            int burst = bursts && below(12) == 0 ? Math.min(14, MOST_CALLS - calls) : 1;
            for (int i = 0; i < burst; i++) {
                compareOneCall(due, run, x, model, burst > 1 ? 0 : below(40));
                calls++;
            }
        }
    }

    private void compareOneCall(Due due, int run, ProcessorSharing x, Model model, int kind) {
        String at = "run " + run + ": ";
        int job = below(26) - 1;
        if (kind < 8) {
            int size = someSize();
            int after = someAfter();
            due.is(at + "submit(" + size + ", " + after + ")", x.submit(size, after), model.submit(size, after));
        } else if (kind < 11) {
            due.is(at + "cancel(" + job + ")", x.cancel(job), model.cancel(job));
        } else if (kind < 20) {
            int n = below(150) == 0 ? 4998 + below(5) : TICKS[below(TICKS.length)];
            due.is(at + "run(" + n + ")", x.run(n), model.run(n));
        } else if (kind == 20 && below(3) == 0) {
            x.clear();
            model.clear();
        } else {
            compareOneQuestion(due, at, x, model, job);
        }
    }

    private void compareOneQuestion(Due due, String at, ProcessorSharing x, Model model, int job) {
        switch (below(7)) {
            case 0 -> due.is(at + "now()", x.now(), model.now());
            case 1 -> due.is(at + "state(" + job + ")", x.state(job), model.state(job));
            case 2 -> due.is(at + "had(" + job + ")", x.had(job), model.had(job));
            case 3 -> due.is(at + "admitted(" + job + ")", x.admitted(job), model.admitted(job));
            case 4 -> due.is(at + "finished(" + job + ")", x.finished(job), model.finished(job));
            case 5 -> due.is(at + "served()", x.served(), model.served());
            default -> due.is(at + "waiting()", x.waiting(), model.waiting());
        }
    }

    private int someSize() {
        return switch (below(8)) {
            case 0 -> below(100002);
            case 1 -> 99999 + below(3);
            case 2, 3 -> SIZES[below(SIZES.length)];
            default -> 1 + below(4000);
        };
    }

    private int someAfter() {
        return switch (below(12)) {
            case 0 -> below(1003) - 1;
            case 1, 2, 3 -> 0;
            default -> below(12);
        };
    }
}
