import java.util.ArrayDeque;
import java.util.ArrayList;
import java.util.Deque;
import java.util.List;

/** The document's words turned into objects and real queues, to compare the program with. */
final class Model {
    private static final class Job {
        final int size;
        final int arrival;
        int had = 0;
        int admitted = -5;
        int finished = -5;
        boolean gone = false;

        Job(int size, int arrival) {
            this.size = size;
            this.arrival = arrival;
        }
    }

    private final List<Job> jobs = new ArrayList<>();
    private final List<Job> toCome = new ArrayList<>();
    private final Deque<Job> line = new ArrayDeque<>();
    private final List<Job> inService = new ArrayList<>();
    private int tick = 0;

    int submit(int size, int after) {
        if (!(1 <= size && size <= 100000)) {
            return -1;
        }
        if (!(0 <= after && after <= 1000)) {
            return -2;
        }
        if (jobs.size() == 24) {
            return -3;
        }
        Job job = new Job(size, tick + after);
        jobs.add(job);
        toCome.add(job);
        return jobs.size() - 1;
    }

    int cancel(int number) {
        if (isMissing(number)) {
            return -4;
        }
        Job job = jobs.get(number);
        if (job.gone || job.finished != -5) {
            return -5;
        }
        toCome.remove(job);
        line.remove(job);
        inService.remove(job);
        job.gone = true;
        return job.had;
    }

    int run(int n) {
        int ended = 0;
        for (int left = Math.max(0, Math.min(n, 5000)); left > 0; left--) {
            ended += oneTick();
        }
        return ended;
    }

    private int oneTick() {
        for (Job job : List.copyOf(toCome)) {
            if (job.arrival == tick) {
                toCome.remove(job);
                line.addLast(job);
            }
        }
        while (inService.size() < 8 && !line.isEmpty()) {
            Job job = line.removeFirst();
            job.admitted = tick;
            inService.add(job);
        }
        int before = inService.size();
        if (before > 0) {
            int share = 840 / before;
            for (Job job : inService) {
                job.had = Math.min(job.size, job.had + share);
                job.finished = job.had == job.size ? tick : -5;
            }
            inService.removeIf(job -> job.finished != -5);
        }
        tick++;
        return before - inService.size();
    }

    void clear() {
        jobs.clear();
        toCome.clear();
        line.clear();
        inService.clear();
    }

    int now() {
        return tick;
    }

    int state(int number) {
        if (isMissing(number)) {
            return -4;
        }
        Job job = jobs.get(number);
        return toCome.contains(job) ? 0 : line.contains(job) ? 1 : inService.contains(job) ? 2 : job.gone ? 4 : 3;
    }

    int had(int number) {
        return isMissing(number) ? -4 : jobs.get(number).had;
    }

    int admitted(int number) {
        return isMissing(number) ? -4 : jobs.get(number).admitted;
    }

    int finished(int number) {
        return isMissing(number) ? -4 : jobs.get(number).finished;
    }

    int served() {
        return inService.size();
    }

    int waiting() {
        return line.size();
    }

    private boolean isMissing(int number) {
        return number < 0 || number >= jobs.size();
    }
}
