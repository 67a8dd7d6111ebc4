/** Promise 6: now. */
public final class NowTest {
    public static void main(String[] args) {
        Due due = new Due();
        onlyRunMovesIt(due);
        goesAsFarAsTheCallsReach(due);
        due.end();
    }

    private static void onlyRunMovesIt(Due due) {
        ProcessorSharing x = new ProcessorSharing();
        due.is("now()", x.now(), 0);
        x.submit(100, 50);
        x.submit(0, 0);
        due.is("now() after submit", x.now(), 0);
        x.run(3);
        due.is("now() after run(3)", x.now(), 3);
        due.is("now() asked again", x.now(), 3);
        x.cancel(0);
        due.is("now() after cancel", x.now(), 3);
        x.clear();
        due.is("now() after clear", x.now(), 3);
        x.run(-7);
        due.is("now() after run(-7)", x.now(), 3);
        x.run(6000);
        due.is("now() after run(6000)", x.now(), 5003);
    }

    /** The last call on each of the two objects is its 512th one. */
    private static void goesAsFarAsTheCallsReach(Due due) {
        ProcessorSharing x = new ProcessorSharing();
        for (int i = 0; i < 507; i++) {
            x.run(5000);
        }
        x.submit(1000, 1000);
        x.run(5000);
        due.is("admitted(0) late", x.admitted(0), 2536000);
        due.is("finished(0) late", x.finished(0), 2536001);
        due.is("now() late", x.now(), 2540000);

        ProcessorSharing y = new ProcessorSharing();
        for (int i = 0; i < 511; i++) {
            y.run(5000);
        }
        due.is("now() after 511 runs", y.now(), 2555000);
    }
}
