/** Promises 20 to 26: what the jobs and their kinds answer. */
public final class JobTest {
    private static final Check CHECK = new Check("JobTest");

    public static void main(String[] args) {
        stagesOfAJob();
        lateJobs();
        queued();
        estimates();
        CHECK.end();
    }

    private static void stagesOfAJob() {
        ThermalCoreScheduler x = Check.loaded("system 0;domain 1 99999 0 1 0 0 0 min;level 10 1;"
                + "domain 1 99999 0 1 0 0 0 min;level 10 1;");
        CHECK.same("jobCount at first", x.jobCount(), 0);
        CHECK.argument("jobValue of no job", () -> x.jobValue(0, 0));
        x.tick(4);
        x.addJob(1, 3, 2, 1, 35, 20);
        x.addJob(1, 5, 0, 3, 15, 90);
        CHECK.same("jobCount", x.jobCount(), 2);
        job(x, "waiting", 0, 1, 3, 6, 1, 35, 26, 35, 0);
        job(x, "waiting", 1, 1, 5, 4, 3, 15, 94, 15, 0);
        x.tick(4);
        job(x, "running", 0, 1, 3, 6, 1, 35, 26, 25, 2);
        job(x, "ready", 1, 1, 5, 4, 3, 15, 94, 15, 1);
        CHECK.same("doneAt while it runs", x.doneAt(0), -2);
        x.tick(3);
        job(x, "done", 0, 1, 3, 6, 1, 35, 26, 0, 3);
        CHECK.same("doneAt", x.doneAt(0), 11);
        x.cancelJob(1);
        job(x, "cancelled", 1, 1, 5, 4, 3, 15, 94, 15, 4);
        CHECK.same("doneAt of a cancelled job", x.doneAt(1), -2);
        CHECK.same("jobCount at the end", x.jobCount(), 2);
    }

    private static void job(ThermalCoreScheduler x, String when, int job, int... due) {
        for (int what = 0; what < 8; what++) {
            CHECK.same("jobValue(" + job + ", " + what + ") " + when, x.jobValue(job, what), due[what]);
        }
    }

    private static void lateJobs() {
        ThermalCoreScheduler x = Check.loaded("system 0;domain 4 99999 0 1 0 0 0 min;level 10 1;");
        x.addJob(0, 0, 0, 0, 30, 2);
        x.addJob(0, 0, 0, 0, 30, 3);
        x.addJob(0, 0, 0, 0, 30, 4);
        x.addJob(0, 0, 0, 0, 50, 2);
        CHECK.same("lateJobs at first", x.lateJobs(), 0);
        x.tick(3);
        CHECK.same("lateJobs: one tick too late, not the one that runs on", x.lateJobs(), 1);
        x.tick(2);
        CHECK.same("lateJobs: the other one, too", x.lateJobs(), 9);
        x.undo();
        CHECK.same("lateJobs after undo", x.lateJobs(), 1);
        x.cancelJob(3);
        x.tick(5);
        CHECK.same("a cancelled job is not late", x.lateJobs(), 1);
        for (int i = 4; i < 24; i++) {
            x.addJob(0, 0, 0, 0, 30, 1);
        }
        x.tick(100);
        CHECK.same("the highest jobs", x.lateJobs(), (1 << 24) - 1 - 14);
    }

    private static void queued() {
        ThermalCoreScheduler x = Check.loaded("system 0;domain 1 99999 0 1 0 0 0 min;level 10 1;"
                + "domain 1 99999 0 1 0 0 0 min;level 10 1;");
        CHECK.element("queued(0, 0) of nothing", () -> x.queued(0, 0));
        CHECK.argument("queued(0, -1)", () -> x.queued(0, -1));
        CHECK.argument("queued(2, 0)", () -> x.queued(2, 0));
        x.addJob(0, 0, 10, 0, 100, 10);
        x.addJob(1, 0, 0, 0, 100, 5);
        x.addJob(0, 0, 0, 0, 100, 20);
        x.addJob(0, 0, 0, 0, 100, 8);
        x.addJob(0, 0, 0, 0, 100, 9);
        list(x, 0, 3, 4, 0, 2);
        list(x, 1, 1);
        x.tick(1);
        list(x, 0, 4, 0, 2);
        list(x, 1);
        x.cancelJob(0);
        list(x, 0, 4, 2);
        x.tick(10);
        list(x, 0, 2);
        CHECK.element("queued(0, MAX)", () -> x.queued(0, Integer.MAX_VALUE));
    }

    private static void list(ThermalCoreScheduler x, int domain, int... due) {
        for (int place = 0; place < due.length; place++) {
            CHECK.same("queued(" + domain + ", " + place + ")", x.queued(domain, place), due[place]);
        }
        CHECK.element("queued beyond the end", () -> x.queued(domain, due.length));
    }

    private static void estimates() {
        ThermalCoreScheduler x = Check.loaded("system 0;domain 1 99999 0 1 0 0 0 min;level 999 1;"
                + "domain 1 99999 0 1 0 0 0 min;level 999 1;");
        CHECK.same("estimate at first", x.estimate(7), 0);
        CHECK.arithmetic("deviation at first", () -> x.deviation(7));
        CHECK.argument("deviation(8)", () -> x.deviation(8));
        kind(x, 50, 50, 0.0);
        // 50 + (33 - 50) / 4 is 46, the quotient being truncated toward zero.
        kind(x, 33, 46, 17.0 / 2.0);
        kind(x, 49, 46, 20.0 / 3.0);
        kind(x, 50, 47, (3.0 + 14.0 + 2.0 + 3.0) / 4.0);
        kind(x, 990, 282, (232.0 + 249.0 + 233.0 + 232.0 + 708.0) / 5.0);
        CHECK.same("another kind", x.estimate(6), 0);
        CHECK.arithmetic("deviation of another kind", () -> x.deviation(6));
        x.addJob(0, 7, 0, 0, 5, 9);
        x.cancelJob(5);
        x.tick(1);
        CHECK.same("a cancelled job does not count", x.estimate(7), 282);
        x.addJob(1, 6, 0, 0, 40, 9);
        x.addJob(0, 6, 0, 0, 80, 9);
        x.tick(1);
        // Both are done in one tick: the domain with the lower number comes first.
        CHECK.same("the first of two", x.estimate(6), 80 - 10);
        x.undo();
        CHECK.same("estimate after undo", x.estimate(6), 0);
        CHECK.arithmetic("deviation after undo", () -> x.deviation(6));
    }

    private static void kind(ThermalCoreScheduler x, int work, int estimate, double deviation) {
        x.addJob(0, 7, 0, 0, work, 9);
        x.tick(1);
        CHECK.same("estimate after " + work, x.estimate(7), estimate);
        CHECK.same("deviation after " + work, x.deviation(7), deviation);
    }
}
