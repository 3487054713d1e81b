import java.util.Random;

/** Promises 38 to 40: the packing of wake-ups. */
public final class PackingTest {
    private static final Check CHECK = new Check("PackingTest");
    private static final String TEXT = "system 0;domain 1 99999 0 1 0 0 0 min;level 1 1;"
            + "domain 1 99999 0 1 0 0 0 min;level 1 1;";

    public static void main(String[] args) {
        nothingWaits();
        intervals();
        clockCutsIntervals();
        manyJobs();
        eachQueryAlone();
        fewestTicks();
        CHECK.end();
    }

    /** The due ticks and sets in turn. */
    private static void packed(ThermalCoreScheduler x, int domain, int... due) {
        int number = due.length / 2;
        CHECK.same("packedWakeUps(" + domain + ")", x.packedWakeUps(domain), number);
        for (int i = 0; i < number; i++) {
            CHECK.same("packedTick(" + domain + ", " + i + ")", x.packedTick(domain, i), due[2 * i]);
            CHECK.same("packedJobs(" + domain + ", " + i + ")", x.packedJobs(domain, i), due[2 * i + 1]);
        }
        CHECK.same("packedTick beyond the end", x.packedTick(domain, number), -2);
        CHECK.same("packedJobs beyond the end", x.packedJobs(domain, number), -2);
        CHECK.same("packedTick(MAX)", x.packedTick(domain, Integer.MAX_VALUE), -2);
        CHECK.same("packedJobs(MAX)", x.packedJobs(domain, Integer.MAX_VALUE), -2);
        CHECK.argument("packedTick(-1)", () -> x.packedTick(domain, -1));
        CHECK.argument("packedJobs(-1)", () -> x.packedJobs(domain, -1));
    }

    private static void nothingWaits() {
        ThermalCoreScheduler x = Check.loaded(TEXT);
        packed(x, 0);
        x.addJob(0, 0, 0, 0, 50, 50);
        x.addJob(0, 0, 0, 5, 50, 60);
        x.tick(1);
        CHECK.same("job 1 is ready, not waiting", x.jobValue(1, 7), 1);
        packed(x, 0);
    }

    private static void intervals() {
        ThermalCoreScheduler x = Check.loaded(TEXT);
        x.tick(3);
        x.addJob(0, 0, 5, 4, 1, 20);
        x.addJob(0, 0, 2, 4, 1, 20);
        x.addJob(0, 0, 10, 0, 1, 20);
        x.addJob(1, 0, 6, 1, 1, 20);
        // 8 to 12, 5 to 9 and 13
        packed(x, 0, 9, 3, 13, 4);
        packed(x, 1, 10, 8);
        x.addJob(0, 0, 7, 3, 1, 20);
        // 10 to 13: not with 9, but with 13
        packed(x, 0, 9, 3, 13, 20);
        x.addJob(0, 0, 6, 999, 1, 20);
        packed(x, 0, 9, 35, 13, 20);
        x.cancelJob(2);
        packed(x, 0, 9, 35, 13, 16);
        x.cancelJob(1);
        packed(x, 0, 12, 49);
    }

    private static void clockCutsIntervals() {
        ThermalCoreScheduler x = Check.loaded("system 0;domain 1 0 100 1 0 0 0 min;level 1 1;");
        x.addJob(0, 0, 5, 0, 1, 20);
        x.addJob(0, 0, 2, 20, 1, 20);
        packed(x, 0, 5, 3);
        x.tick(5);
        packed(x, 0, 5, 3);
        x.addJob(0, 0, 0, 0, 1, 20);
        x.addJob(0, 0, 1, 0, 1, 20);
        packed(x, 0, 5, 7, 6, 8);
        // All that were released now wait for the core; job 3 waits for its time.
        x.tick(1);
        packed(x, 0, 6, 8);
        // An interval that has begun is cut at the clock until its last tick.
        ThermalCoreScheduler y = Check.loaded(TEXT);
        y.addJob(0, 0, 3, 4, 1, 20);
        y.tick(6);
        packed(y, 0, 7, 1);
        y.tick(1);
        packed(y, 0, 7, 1);
        y.tick(1);
        packed(y, 0);
    }

    private static void manyJobs() {
        ThermalCoreScheduler x = Check.loaded(TEXT);
        int[] due = new int[48];
        for (int job = 0; job < 24; job++) {
            x.addJob(0, 0, 999 - 40 * job, 39, 1, 20);
            due[2 * (23 - job)] = 1038 - 40 * job;
            due[2 * (23 - job) + 1] = 1 << job;
        }
        packed(x, 0, due);
    }

    /** No query may live on what another one has found. */
    private static void eachQueryAlone() {
        ThermalCoreScheduler x = Check.loaded(TEXT);
        x.addJob(0, 0, 5, 4, 1, 20);
        x.addJob(1, 0, 1, 1, 1, 20);
        CHECK.same("packedTick first of all", x.packedTick(0, 0), 9);
        CHECK.same("packedJobs of another domain", x.packedJobs(1, 0), 2);
        CHECK.same("packedTick of the first domain", x.packedTick(0, 0), 9);
        CHECK.same("packedWakeUps of the other", x.packedWakeUps(1), 1);
        CHECK.same("packedJobs of the first domain", x.packedJobs(0, 0), 1);
        x.addJob(0, 0, 20, 0, 1, 20);
        CHECK.same("packedJobs after another job", x.packedJobs(0, 1), 4);
        x.undo();
        CHECK.same("packedTick after undo", x.packedTick(0, 1), -2);
    }

    /** Against a search through all sets of slack ends, one of which is always among the best sets of ticks. */
    private static void fewestTicks() {
        Random random = new Random(5);
        for (int run = 0; run < 60; run++) {
            ThermalCoreScheduler x = Check.loaded(TEXT);
            int jobs = 1 + random.nextInt(8);
            int[] from = new int[jobs];
            int[] to = new int[jobs];
            for (int job = 0; job < jobs; job++) {
                from[job] = random.nextInt(20);
                int slack = random.nextInt(9);
                to[job] = from[job] + slack;
                x.addJob(0, 0, from[job], slack, 1, 20);
            }
            int fewest = jobs;
            for (int set = 0; set < 1 << jobs; set++) {
                if (Integer.bitCount(set) < fewest && serves(set, from, to)) {
                    fewest = Integer.bitCount(set);
                }
            }
            CHECK.same("packedWakeUps of run " + run, x.packedWakeUps(0), fewest);
        }
    }

    private static boolean serves(int set, int[] from, int[] to) {
        for (int job = 0; job < from.length; job++) {
            boolean served = false;
            for (int i = 0; i < from.length; i++) {
                served |= (set >> i & 1) == 1 && from[job] <= to[i] && to[i] <= to[job];
            }
            if (!served) {
                return false;
            }
        }
        return true;
    }
}
