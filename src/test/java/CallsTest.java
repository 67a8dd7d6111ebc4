/** "What it is": how long an object is used. */
public final class CallsTest {
    private static final int MOST_CALLS = 512;

    public static void main(String[] args) {
        Due due = new Due();
        theLastCallsAreAnswered(due);
        theLastCallsChangeTheServer(due);
        theLastRunWorksItsTicks(due);
        laterCallsEnd(due);
        due.end();
    }

    /** An object that has a job of every state, and has had so many calls. */
    private static ProcessorSharing after(int calls) {
        ProcessorSharing x = Scene.ofEveryState();
        int calledSoFar = Scene.JOBS + 2;
        for (int i = calledSoFar; i < calls; i++) {
            x.now();
        }
        return x;
    }

    /** Each kind of call as the 511th one and as the last one. */
    private static void theLastCallsAreAnswered(Due due) {
        due.says("An object is used for at most 512 calls after it has been made");
        for (int before = MOST_CALLS - 2; before < MOST_CALLS; before++) {
            String at = "call " + (before + 1) + ", ";
            due.is(at + "submit", after(before).submit(7, 0), Scene.JOBS);
            due.is(at + "cancel", after(before).cancel(Scene.SERVED), 210);
            due.is(at + "run", after(before).run(5000), 11);
            due.is(at + "now", after(before).now(), 2);
            due.is(at + "state", after(before).state(Scene.SERVED), 2);
            due.is(at + "had", after(before).had(Scene.SERVED), 210);
            due.is(at + "admitted", after(before).admitted(Scene.LAST_SERVED), 1);
            due.is(at + "finished", after(before).finished(Scene.FINISHED), 0);
            due.is(at + "served", after(before).served(), 7);
            due.is(at + "waiting", after(before).waiting(), 3);
        }
    }

    /** What the 511th call changed is seen by the 512th. */
    private static void theLastCallsChangeTheServer(Due due) {
        due.says("An object is used for at most 512 calls after it has been made");
        ProcessorSharing x = after(MOST_CALLS - 2);
        x.submit(7, 0);
        due.is("state after submit", x.state(Scene.JOBS), 0);
        x = after(MOST_CALLS - 2);
        x.cancel(Scene.IN_LINE);
        due.is("waiting() after cancel", x.waiting(), 2);
        x = after(MOST_CALLS - 2);
        x.run(1);
        due.is("admitted after run", x.admitted(Scene.IN_LINE), 2);
        x = after(MOST_CALLS - 2);
        x.clear();
        due.is("submit after clear", x.submit(7, 0), 0);
    }

    private static void theLastRunWorksItsTicks(Due due) {
        due.says("512 calls reach at most 2560000.");
        ProcessorSharing x = new ProcessorSharing();
        for (int i = 0; i < MOST_CALLS - 3; i++) {
            x.run(5000);
        }
        due.is("submit(100000, 1000)", x.submit(100000, 1000), 0);
        due.is("submit(1, 0)", x.submit(1, 0), 1);
        due.is("run(5000), the last call", x.run(5000), 2);
    }

    /** What they answer is free, but LANGUAGE.md has every call end (rule 7). */
    private static void laterCallsEnd(Due due) {
        due.says("what later calls answer is free");
        ProcessorSharing x = after(MOST_CALLS);
        for (int i = 0; i < 100; i++) {
            x.submit(7, i);
            x.run(3);
            x.cancel(i);
            x.state(i);
            x.had(i);
            x.admitted(i);
            x.finished(i);
            x.served();
            x.waiting();
            x.now();
        }
        x.clear();
        due.holds("calls after the 512th end", true);
    }
}
