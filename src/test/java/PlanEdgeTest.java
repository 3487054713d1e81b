/** The boundary cases of promises 35 to 40: racing and pacing, and the packing of wake-ups. */
public final class PlanEdgeTest {
    private static final Check CHECK = new Check("PlanEdgeTest");
    // Two levels, then one, then five.
    private static final String PACED = "system 0;domain 2 0 999 1 5 0 0 max;level 10 50;level 20 200;"
            + "domain 1 0 0 1 99 0 0 max;level 1 999;domain 1 0 0 1 0 0 0 max;level 10 30;level 20 60;level 30 90;"
            + "level 40 120;level 50 150;";
    private static final String WAITING = "system 0;domain 1 99999 0 1 0 0 0 min;level 1 1;"
            + "domain 1 99999 0 1 0 0 0 min;level 1 1;";

    public static void main(String[] args) {
        levelsThatDoNotExist();
        worksAndWindowsAtTheirEnds();
        levelEnergyOfTheWholeWindow();
        bestLevelOfEquals();
        bestLevelOfNone();
        mixedEnergyAtItsEnds();
        mixedEnergyOfTooMuchWork();
        nothingToPack();
        indexesThatDoNotExist();
        intervalsThatTouch();
        intervalsCutAtTheClock();
        waitingJobsAlone();
        twentyFourTicks();
        oneTickForAll();
        eachAnswerAlone();
        CHECK.end();
    }

    private static void levelsThatDoNotExist() {
        CHECK.about("promises 35 to 40: a domain that does not exist");
        ThermalCoreScheduler x = Check.loaded(PACED);
        for (int domain : new int[] {-1, 3, 4, Integer.MIN_VALUE, Integer.MAX_VALUE}) {
            CHECK.argument("levelEnergy(" + domain + ", ..)", () -> x.levelEnergy(domain, 0, 1, 1));
            CHECK.argument("bestLevel(" + domain + ", ..)", () -> x.bestLevel(domain, 1, 1));
            CHECK.argument("mixedEnergy(" + domain + ", ..)", () -> x.mixedEnergy(domain, 1, 1));
            CHECK.argument("packedWakeUps(" + domain + ")", () -> x.packedWakeUps(domain));
            CHECK.argument("packedTick(" + domain + ", 0)", () -> x.packedTick(domain, 0));
            CHECK.argument("packedJobs(" + domain + ", 0)", () -> x.packedJobs(domain, 0));
        }
        CHECK.about("promise 35: a level that does not exist");
        int[] levels = {2, 1, 5};
        for (int domain = 0; domain < 3; domain++) {
            int d = domain;
            for (int level : new int[] {-1, levels[d], 5, Integer.MIN_VALUE, Integer.MAX_VALUE}) {
                CHECK.argument("levelEnergy(" + d + ", " + level + ", ..)", () -> x.levelEnergy(d, level, 1, 1));
            }
        }
        CHECK.same("levelEnergy of the first level", x.levelEnergy(2, 0, 1, 1), 30);
        CHECK.same("levelEnergy of the last of five", x.levelEnergy(2, 4, 1, 1), 150);
        CHECK.same("levelEnergy of the last of two", x.levelEnergy(0, 1, 1, 1), 200);
        CHECK.same("levelEnergy of the only one", x.levelEnergy(1, 0, 1, 1), 999);
    }

    private static void worksAndWindowsAtTheirEnds() {
        ThermalCoreScheduler x = Check.loaded(PACED);
        CHECK.about("promises 35 and 36: work and window of 1 to 9999");
        for (int wrong : new int[] {0, -1, 10000, Integer.MIN_VALUE, Integer.MAX_VALUE}) {
            CHECK.argument("levelEnergy with the work " + wrong, () -> x.levelEnergy(0, 0, wrong, 9));
            CHECK.argument("levelEnergy with the window " + wrong, () -> x.levelEnergy(0, 0, 9, wrong));
            CHECK.argument("bestLevel with the work " + wrong, () -> x.bestLevel(0, wrong, 9));
            CHECK.argument("bestLevel with the window " + wrong, () -> x.bestLevel(0, 9, wrong));
        }
        CHECK.same("levelEnergy(1, 0, 9999, 9999)", x.levelEnergy(1, 0, 9999, 9999), 9999 * 999);
        CHECK.same("levelEnergy(1, 0, 1, 9999)", x.levelEnergy(1, 0, 1, 9999), 999 + 9998 * 99);
        CHECK.same("levelEnergy(1, 0, 9999, 1)", x.levelEnergy(1, 0, 9999, 1), -2);
        CHECK.same("bestLevel(1, 9999, 9999)", x.bestLevel(1, 9999, 9999), 0);
        CHECK.same("bestLevel(1, 1, 1)", x.bestLevel(1, 1, 1), 0);
        CHECK.same("bestLevel(1, 9999, 1)", x.bestLevel(1, 9999, 1), -2);
        CHECK.about("promise 37: a work of 1 to 500, a window of 1 to 100");
        for (int wrong : new int[] {0, -1, 501, Integer.MIN_VALUE, Integer.MAX_VALUE}) {
            CHECK.argument("mixedEnergy with the work " + wrong, () -> x.mixedEnergy(2, wrong, 100));
        }
        for (int wrong : new int[] {0, -1, 101, Integer.MIN_VALUE, Integer.MAX_VALUE}) {
            CHECK.argument("mixedEnergy with the window " + wrong, () -> x.mixedEnergy(2, 1, wrong));
        }
    }

    private static void levelEnergyOfTheWholeWindow() {
        ThermalCoreScheduler x = Check.loaded(PACED);
        CHECK.about("promise 35: work / frequency, rounded up");
        int[][] workAndTicks = {{1, 1}, {9, 1}, {10, 1}, {11, 2}, {20, 2}, {21, 3}};
        for (int[] row : workAndTicks) {
            int ticks = row[1];
            CHECK.same("levelEnergy of " + row[0] + " in 9", x.levelEnergy(0, 0, row[0], 9),
                    50 * ticks + 5 * (9 - ticks));
            CHECK.about("promise 35: idle for the rest of the window, which may be nothing");
            CHECK.same("levelEnergy of " + row[0] + " in " + ticks, x.levelEnergy(0, 0, row[0], ticks), 50 * ticks);
            CHECK.about("promise 35: -2 if the work takes more ticks than the window");
            if (ticks > 1) {
                CHECK.same("levelEnergy of " + row[0] + " in one less", x.levelEnergy(0, 0, row[0], ticks - 1), -2);
            }
        }
    }

    private static void bestLevelOfEquals() {
        CHECK.about("promise 36: of several the highest one");
        ThermalCoreScheduler x = Check.loaded(PACED);
        CHECK.same("600 at 30, 20, 15 and 12 ticks alike", x.bestLevel(2, 600, 99), 4);
        CHECK.same("120 at 12, 6, 4 and 3 ticks alike, 50 being too fast", x.bestLevel(2, 120, 99), 3);
        CHECK.same("20 at 2 ticks and 1 alike", x.bestLevel(2, 20, 99), 1);
        CHECK.same("10 at the lowest", x.bestLevel(2, 10, 99), 0);
        CHECK.same("11 at the second", x.bestLevel(2, 11, 1), 1);
    }

    private static void bestLevelOfNone() {
        CHECK.about("promise 36: -2 if there is none that takes no more ticks than the window");
        ThermalCoreScheduler x = Check.loaded(PACED);
        CHECK.same("50 in 1 tick", x.bestLevel(2, 50, 1), 4);
        CHECK.same("51 in 1 tick", x.bestLevel(2, 51, 1), -2);
        CHECK.same("40 in 2 ticks", x.bestLevel(0, 40, 2), 1);
        CHECK.same("41 in 2 ticks", x.bestLevel(0, 41, 2), -2);
        CHECK.about("promise 36: a level that takes too long is not the best, however little it needs");
        CHECK.same("20 in 2 ticks", x.bestLevel(0, 20, 2), 0);
        CHECK.same("20 in 1 tick", x.bestLevel(0, 20, 1), 1);
    }

    private static void mixedEnergyAtItsEnds() {
        CHECK.about("promise 37: the least energy at the ends of the ranges");
        ThermalCoreScheduler x = Check.loaded(PACED);
        CHECK.same("1 in 1 tick", x.mixedEnergy(0, 1, 1), 50);
        CHECK.same("1 in 100 ticks", x.mixedEnergy(0, 1, 100), 50 + 99 * 5);
        CHECK.same("500 in 100 ticks", x.mixedEnergy(0, 500, 100), 50 * 50 + 50 * 5);
        CHECK.same("100 in 100 ticks at the only level", x.mixedEnergy(1, 100, 100), 99900);
        CHECK.same("1 in 100 ticks at the only level", x.mixedEnergy(1, 1, 100), 999 + 99 * 99);
        CHECK.same("500 in 10 ticks", x.mixedEnergy(2, 500, 10), 1500);
        CHECK.same("500 in 11 ticks", x.mixedEnergy(2, 500, 11), 1500);
        CHECK.about("promise 37: each tick at a level of its own, or idle");
        CHECK.same("30 in 2 ticks", x.mixedEnergy(0, 30, 2), 250);
        CHECK.same("30 in 3 ticks", x.mixedEnergy(0, 30, 3), 150);
        CHECK.same("30 in 4 ticks", x.mixedEnergy(0, 30, 4), 155);
        CHECK.same("31 in 2 ticks", x.mixedEnergy(0, 31, 2), 400);
        CHECK.same("95 in 2 ticks: 50 and 50", x.mixedEnergy(2, 95, 2), 300);
        CHECK.same("85 in 2 ticks: 50 and 40", x.mixedEnergy(2, 85, 2), 270);
        CHECK.about("promise 37: without temperatures, credits and jobs");
        x.addJob(0, 0, 0, 0, 500, 9);
        x.tick(3);
        CHECK.same("30 in 2 ticks", x.mixedEnergy(0, 30, 2), 250);
    }

    private static void mixedEnergyOfTooMuchWork() {
        CHECK.about("promise 37: -2 if the work cannot be done in the window");
        ThermalCoreScheduler x = Check.loaded(PACED);
        for (int window : new int[] {1, 2, 9}) {
            CHECK.same("all that " + window + " ticks can do", x.mixedEnergy(2, 50 * window, window), 150 * window);
            CHECK.same("one more", x.mixedEnergy(2, 50 * window + 1, window), -2);
        }
        CHECK.same("101 in 100 ticks", x.mixedEnergy(1, 101, 100), -2);
        CHECK.same("500 in 1 tick", x.mixedEnergy(2, 500, 1), -2);
        CHECK.same("the next call is as good as the first", x.mixedEnergy(1, 100, 100), 99900);
    }

    // ---- packing

    /** The due ticks and sets in turn. */
    private static void packed(ThermalCoreScheduler x, int... due) {
        CHECK.same("packedWakeUps(0)", x.packedWakeUps(0), due.length / 2);
        for (int i = 0; i < due.length / 2; i++) {
            CHECK.same("packedTick(0, " + i + ")", x.packedTick(0, i), due[2 * i]);
            CHECK.same("packedJobs(0, " + i + ")", x.packedJobs(0, i), due[2 * i + 1]);
        }
        CHECK.same("packedTick behind the last", x.packedTick(0, due.length / 2), -2);
        CHECK.same("packedJobs behind the last", x.packedJobs(0, due.length / 2), -2);
    }

    private static void nothingToPack() {
        CHECK.about("promises 38 to 40: no waiting job");
        ThermalCoreScheduler x = Check.loaded(WAITING);
        packed(x);
        x.addJob(1, 0, 5, 5, 1, 1);
        packed(x);
        CHECK.same("packedWakeUps(1)", x.packedWakeUps(1), 1);
    }

    private static void indexesThatDoNotExist() {
        ThermalCoreScheduler x = Check.loaded(WAITING);
        for (int jobs = 0; jobs <= 3; jobs++) {
            CHECK.about("promises 39 and 40: -2 if there are not so many");
            for (int index : new int[] {jobs, jobs + 1, 24, 25, Integer.MAX_VALUE}) {
                CHECK.same("packedTick(0, " + index + ") of " + jobs, x.packedTick(0, index), -2);
                CHECK.same("packedJobs(0, " + index + ") of " + jobs, x.packedJobs(0, index), -2);
            }
            CHECK.about("promises 39 and 40: or index is negative");
            for (int index : new int[] {-1, -2, Integer.MIN_VALUE}) {
                CHECK.argument("packedTick(0, " + index + ") of " + jobs, () -> x.packedTick(0, index));
                CHECK.argument("packedJobs(0, " + index + ") of " + jobs, () -> x.packedJobs(0, index));
            }
            x.addJob(0, 0, 10 * jobs, 1, 1, 1);
        }
    }

    private static void intervalsThatTouch() {
        CHECK.about("promise 38: from its release tick to its release tick + slack, both included");
        ThermalCoreScheduler x = Check.loaded(WAITING);
        x.addJob(0, 0, 2, 3, 1, 1);
        packed(x, 5, 1);
        x.addJob(0, 0, 5, 9, 1, 1);
        packed(x, 5, 3);
        x.addJob(0, 0, 6, 0, 1, 1);
        packed(x, 5, 3, 6, 4);
        x.addJob(0, 0, 0, 5, 1, 1);
        packed(x, 5, 11, 6, 4);
        CHECK.about("promise 40: .. but none of the ticks before it");
        x.addJob(0, 0, 0, 4, 1, 1);
        packed(x, 4, 25, 6, 6);
        CHECK.about("promise 39: each one chosen as late as possible, the first one first");
        x.cancelJob(2);
        packed(x, 4, 25, 14, 2);
        CHECK.about("promise 38: a slack of 0 and one of 999");
        ThermalCoreScheduler y = Check.loaded(WAITING);
        y.addJob(0, 0, 999, 999, 1, 1);
        packed(y, 1998, 1);
        y.addJob(0, 0, 999, 0, 1, 1);
        packed(y, 999, 3);
        y.addJob(0, 0, 0, 0, 1, 1);
        packed(y, 0, 4, 999, 3);
    }

    private static void intervalsCutAtTheClock() {
        CHECK.about("promise 38: but not before the clock");
        ThermalCoreScheduler x = Check.loaded(WAITING);
        x.addJob(0, 0, 2, 4, 1, 1);
        x.tick(2);
        packed(x, 6, 1);
        x.tick(4);
        CHECK.same("jobValue(0, 7)", x.jobValue(0, 7), 0);
        packed(x, 6, 1);
        x.addJob(0, 0, 0, 0, 1, 1);
        packed(x, 6, 3);
        x.addJob(0, 0, 1, 0, 1, 1);
        packed(x, 6, 3, 7, 4);
        // A job's time is over while it waits only if its slack ended with the tick before: it is released there.
        x.tick(1);
        packed(x, 7, 4);
    }

    private static void waitingJobsAlone() {
        CHECK.about("promise 38: each waiting job, not one that is ready, running, done or cancelled");
        ThermalCoreScheduler x = Check.loaded(WAITING);
        x.addJob(0, 0, 0, 0, 1, 1);
        x.addJob(0, 0, 0, 0, 9, 2);
        x.addJob(0, 0, 0, 0, 9, 3);
        x.addJob(0, 0, 8, 1, 9, 4);
        x.addJob(0, 0, 20, 1, 9, 4);
        packed(x, 0, 7, 9, 8, 21, 16);
        x.cancelJob(4);
        packed(x, 0, 7, 9, 8);
        x.tick(2);
        CHECK.same("a done, a running and a ready job", 100 * x.jobValue(0, 7) + 10 * x.jobValue(1, 7)
                + x.jobValue(2, 7), 321);
        packed(x, 9, 8);
        CHECK.about("promise 41: undone, they wait again");
        x.undo();
        packed(x, 0, 7, 9, 8);
    }

    private static void twentyFourTicks() {
        CHECK.about("promise 38: 24 jobs with a tick each");
        ThermalCoreScheduler x = Check.loaded(WAITING);
        int[] due = new int[48];
        for (int job = 0; job < 24; job++) {
            x.addJob(0, 0, 900 - 30 * job, 29, 1, 1);
            due[46 - 2 * job] = 929 - 30 * job;
            due[47 - 2 * job] = 1 << job;
        }
        packed(x, due);
        CHECK.same("packedTick(0, 24)", x.packedTick(0, 24), -2);
    }

    private static void oneTickForAll() {
        CHECK.about("promise 38: 24 jobs with one tick");
        ThermalCoreScheduler x = Check.loaded(WAITING);
        for (int job = 0; job < 24; job++) {
            x.addJob(0, 0, 100 - job, 2 * job, 1, 1);
        }
        packed(x, 100, (1 << 24) - 1);
    }

    private static void eachAnswerAlone() {
        CHECK.about("promises 39 and 40: the answer does not depend on what was asked before");
        ThermalCoreScheduler x = Check.loaded(WAITING);
        x.addJob(0, 0, 5, 4, 1, 20);
        x.addJob(1, 0, 1, 1, 1, 20);
        CHECK.same("packedTick(0, 0)", x.packedTick(0, 0), 9);
        CHECK.same("packedTick(1, 0)", x.packedTick(1, 0), 2);
        CHECK.same("packedJobs(0, 0)", x.packedJobs(0, 0), 1);
        CHECK.same("packedJobs(1, 0)", x.packedJobs(1, 0), 2);
        x.addJob(1, 0, 9, 9, 1, 20);
        CHECK.same("packedTick(1, 1) of a new job", x.packedTick(1, 1), 18);
        x.undo();
        CHECK.same("packedJobs(1, 1) after undo()", x.packedJobs(1, 1), -2);
    }
}
