/** Rule 7 of LANGUAGE.md: no call throws or fails to end, whatever its arguments and the state. */
public final class AnyArgumentsTest {
    private static final int[] ODD = {
        Integer.MIN_VALUE, Integer.MIN_VALUE + 1, -100000, -24, -1, 0, 1, 7, 8, 23, 24, 25,
        840, 1000, 1001, 5000, 5001, 100000, 100001, Integer.MAX_VALUE - 1, Integer.MAX_VALUE
    };
    private static final int SCENES = 4;

    public static void main(String[] args) {
        Due due = new Due();
        due.says("LANGUAGE.md, rule 7");
        for (int scene = 0; scene < SCENES; scene++) {
            for (int odd : ODD) {
                callAll(due, begin(scene), odd);
            }
        }
        due.end();
    }

    private static ProcessorSharing begin(int scene) {
        ProcessorSharing x = switch (scene) {
            case 0 -> new ProcessorSharing();
            case 1 -> Scene.ofEveryState();
            default -> Scene.ofEveryStateAndFull();
        };
        if (scene == 3) {
            x.clear();
        }
        return x;
    }

    private static void callAll(Due due, ProcessorSharing x, int odd) {
        for (int second : ODD) {
            due.holds("submit answers a number or a refusal", within(x.submit(odd, second), -3, 23));
        }
        askAll(due, x, odd);
        due.holds("run answers a count", within(x.run(odd), 0, 24));
        askAll(due, x, odd);
        due.holds("cancel answers units or a refusal", within(x.cancel(odd), -5, 100000));
        askAll(due, x, odd);
    }

    private static void askAll(Due due, ProcessorSharing x, int job) {
        due.holds("state is one of five or a refusal", within(x.state(job), -4, 4));
        due.holds("had is units or a refusal", within(x.had(job), -4, 100000));
        due.holds("admitted is before now or a refusal", within(x.admitted(job), -5, x.now() - 1));
        due.holds("finished is before now or a refusal", within(x.finished(job), -5, x.now() - 1));
        due.holds("served is at most eight", within(x.served(), 0, 8));
        due.holds("waiting is at most what eight leave", within(x.waiting(), 0, 16));
    }

    private static boolean within(int answer, int least, int most) {
        return answer >= least && answer <= most;
    }
}
