/** Rule 7 of LANGUAGE.md: no call throws or fails to end, whatever its arguments and the state. */
public final class AnyArgumentsTest {
    private static final int[] ODD = {
        Integer.MIN_VALUE, Integer.MIN_VALUE + 1, -100000, -24, -1, 0, 1, 7, 8, 23, 24, 25,
        840, 1000, 1001, 5000, 5001, 100000, 100001, Integer.MAX_VALUE - 1, Integer.MAX_VALUE
    };

    public static void main(String[] args) {
        Due due = new Due();
        ProcessorSharing x = new ProcessorSharing();
        for (int round = 0; round < 3; round++) {
            for (int first : ODD) {
                for (int second : ODD) {
                    due.holds("submit answers a number or a refusal", within(x.submit(first, second), -3, 23));
                }
                askAll(due, x, first);
                due.holds("run answers a count", within(x.run(first), 0, 24));
                askAll(due, x, first);
                due.holds("cancel answers units or a refusal", within(x.cancel(first), -5, 100000));
            }
            x.clear();
        }
        due.end();
    }

    private static void askAll(Due due, ProcessorSharing x, int job) {
        due.holds("state is one of five or a refusal", within(x.state(job), -4, 4));
        due.holds("had is units or a refusal", within(x.had(job), -4, 100000));
        due.holds("admitted is no later than now", within(x.admitted(job), -5, x.now()));
        due.holds("finished is before now", within(x.finished(job), -5, x.now() - 1));
        due.holds("served is at most eight", within(x.served(), 0, 8));
        due.holds("waiting is at most all jobs", within(x.waiting(), 0, 24));
    }

    private static boolean within(int answer, int least, int most) {
        return answer >= least && answer <= most;
    }
}
