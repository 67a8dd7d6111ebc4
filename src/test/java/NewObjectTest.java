/** Promise 1: a new object. */
public final class NewObjectTest {
    public static void main(String[] args) {
        Due due = new Due();
        startsEmptyAtTickZero(due);
        objectsShareNothing(due);
        due.end();
    }

    private static void startsEmptyAtTickZero(Due due) {
        ProcessorSharing x = new ProcessorSharing();
        due.server(x, 0, 0, 0);
        for (int job = -1; job <= 24; job++) {
            due.noJob(x, job);
        }
        due.is("run(1) without jobs", x.run(1), 0);
        due.server(x, 1, 0, 0);
        due.is("first submit", x.submit(840, 0), 0);
    }

    private static void objectsShareNothing(Due due) {
        ProcessorSharing used = new ProcessorSharing();
        used.submit(5000, 0);
        used.run(3);
        ProcessorSharing fresh = new ProcessorSharing();
        due.server(fresh, 0, 0, 0);
        due.noJob(fresh, 0);
        fresh.submit(1, 0);
        fresh.run(10);
        due.server(used, 3, 1, 0);
        due.job(used, 0, 2, 2520, 0, ProcessorSharing.NOT_YET);
    }
}
