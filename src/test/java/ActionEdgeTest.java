/** The boundary cases of sections 1, 3 and 4 and of promises 6 to 11: the actions, and what a tick does. */
public final class ActionEdgeTest {
    private static final Check CHECK = new Check("ActionEdgeTest");
    private static final int WAITING = 0;
    private static final int READY = 1;
    private static final int RUNNING = 2;
    private static final int DONE = 3;
    private static final int CANCELLED = 4;
    // Two domains without any heat: two cores that do 10 in a tick, and four that do 1.
    private static final String COOL = "system 0;domain 2 99999 0 1 0 0 0 min;level 10 1;"
            + "domain 4 99999 0 1 0 0 0 min;level 1 1;";

    public static void main(String[] args) {
        argumentsOfAJob();
        twentyFourJobs();
        cancelInEachStage();
        settingsAtTheirEnds();
        ticksAtTheirEnds();
        doneExactlyOrBeyond();
        lateAfterTheDeadline();
        firstEstimateOfAKind();
        slackEndsAtTheClock();
        awakeDomainReleasesAtTheClock();
        releasedTogether();
        awakeByAJobOnACore();
        leastDeadlineThenLowestNumber();
        wakeUps();
        demandAtEachFrequency();
        demandAtAndAfterTheDeadline();
        demandOfTheOwnCoresAlone();
        policiesOfAnIdleDomain();
        creditsAtZero();
        creditsAtTheCapacity();
        loweredAboveTheLimit();
        loweredToTheFirstThatFits();
        idleDomainIsNotLowered();
        powerOfHaltedAndIdleCores();
        truncatedDivisions();
        greatestNumbers();
        fiveHundredTwelveCalls();
        CHECK.end();
    }

    private static void stages(ThermalCoreScheduler x, int... due) {
        for (int job = 0; job < due.length; job++) {
            CHECK.same("jobValue(" + job + ", 7) at " + x.clock(), x.jobValue(job, 7), due[job]);
        }
    }

    // ---- promises 6 to 11

    private static void argumentsOfAJob() {
        int[][] ends = {{0, 1}, {0, 7}, {0, 999}, {0, 999}, {1, 9999}, {1, 9999}};
        for (int i = 0; i < 6; i++) {
            for (int side = 0; side < 2; side++) {
                int[] a = {1, 3, 10, 20, 30, 40};
                a[i] = ends[i][side];
                ThermalCoreScheduler x = Check.loaded(COOL);
                x.tick(7);
                CHECK.about("promise 6: an end of the range of argument " + i);
                CHECK.same("addJob", x.addJob(a[0], a[1], a[2], a[3], a[4], a[5]), 0);
                int[] due = {a[0], a[1], 7 + a[2], a[3], a[4], 7 + a[2] + a[5], a[4], WAITING};
                for (int what = 0; what < 8; what++) {
                    CHECK.same("jobValue(0, " + what + ")", x.jobValue(0, what), due[what]);
                }
                CHECK.about("promise 6: the first value beyond the range of argument " + i);
                a[i] += side == 0 ? -1 : 1;
                CHECK.argument("addJob", () -> x.addJob(a[0], a[1], a[2], a[3], a[4], a[5]));
                CHECK.same("jobCount()", x.jobCount(), 1);
                CHECK.same("undo()", x.undo(), 1);
                CHECK.same("jobCount() after undo()", x.jobCount(), 0);
            }
        }
    }

    private static void twentyFourJobs() {
        CHECK.about("section 3: at most 24 jobs, done and cancelled ones included");
        ThermalCoreScheduler x = Check.loaded(COOL);
        for (int job = 0; job < 8; job++) {
            CHECK.same("addJob", x.addJob(0, 0, 0, 0, 10, 99), job);
        }
        CHECK.same("tick(4)", x.tick(4), 8);
        for (int job = 8; job < 16; job++) {
            CHECK.same("addJob", x.addJob(1, 0, 0, 0, 10, 99), job);
            CHECK.same("cancelJob", x.cancelJob(job), 10);
        }
        for (int job = 16; job < 24; job++) {
            CHECK.same("addJob", x.addJob(1, 0, 5, 5, 10, 99), job);
        }
        CHECK.about("promise 6: -2 if there are 24 jobs");
        CHECK.same("a 25th job", x.addJob(0, 0, 0, 0, 1, 1), -2);
        CHECK.same("jobCount()", x.jobCount(), 24);
        CHECK.same("tick(1), nothing being new", x.tick(1), 0);
        CHECK.about("section 6: an argument out of its range comes before the error");
        CHECK.argument("a 25th job in no domain", () -> x.addJob(2, 0, 0, 0, 1, 1));
        CHECK.argument("a 25th job without time", () -> x.addJob(0, 0, 0, 0, 1, 0));
        CHECK.about("promise 6: a refused job is no action");
        CHECK.same("undo() of the tick", x.undo(), 9);
        CHECK.same("undo() of the 24th job", x.undo(), 8);
        CHECK.same("jobCount()", x.jobCount(), 23);
        CHECK.same("the 24th job once more", x.addJob(0, 0, 0, 0, 1, 1), 23);
        CHECK.same("a 25th job once more", x.addJob(0, 0, 0, 0, 1, 1), -2);
    }

    private static void cancelInEachStage() {
        ThermalCoreScheduler x = Check.loaded(COOL);
        CHECK.about("promise 7: a job that does not exist");
        CHECK.argument("cancelJob(0) of no jobs", () -> x.cancelJob(0));
        x.addJob(0, 0, 0, 0, 10, 1);
        x.addJob(0, 0, 0, 0, 25, 2);
        x.addJob(0, 0, 0, 0, 35, 3);
        x.addJob(0, 0, 3, 9, 45, 4);
        CHECK.argument("cancelJob(4) of 4 jobs", () -> x.cancelJob(4));
        CHECK.argument("cancelJob(-1)", () -> x.cancelJob(-1));
        x.tick(1);
        stages(x, DONE, RUNNING, READY, WAITING);
        CHECK.about("promise 7: -2 if it is done");
        CHECK.same("cancelJob(0)", x.cancelJob(0), -2);
        CHECK.same("it stays done", x.jobValue(0, 7), DONE);
        CHECK.about("promise 7: its remaining work; if it runs, it leaves its core");
        CHECK.same("cancelJob(1)", x.cancelJob(1), 15);
        CHECK.same("jobOn(0, 1)", x.jobOn(0, 1), -2);
        CHECK.same("cancelJob(2)", x.cancelJob(2), 35);
        CHECK.same("cancelJob(3)", x.cancelJob(3), 45);
        stages(x, DONE, CANCELLED, CANCELLED, CANCELLED);
        CHECK.about("promise 7: -2 if it is cancelled");
        for (int job = 1; job < 4; job++) {
            int j = job;
            CHECK.same("cancelJob(" + job + ")", x.cancelJob(j), -2);
        }
        CHECK.about("promise 7: a refused cancelling is no action");
        CHECK.same("undo() of the last one", x.undo(), 7);
        stages(x, DONE, CANCELLED, CANCELLED, WAITING);
        CHECK.about("promise 7: a cancelled job never runs again");
        x.cancelJob(3);
        CHECK.same("tick(50)", x.tick(50), 0);
        stages(x, DONE, CANCELLED, CANCELLED, CANCELLED);
    }

    private static void settingsAtTheirEnds() {
        ThermalCoreScheduler x = Check.loaded("system 42;domain 1 500 0 1 0 0 0 demand;level 1 1;"
                + "domain 1 600 0 1 0 0 0 race;level 1 1;");
        CHECK.about("promise 8: 0 to 3; returns the previous policy");
        CHECK.same("setPolicy(1, 0)", x.setPolicy(1, 0), 3);
        CHECK.same("setPolicy(1, 3)", x.setPolicy(1, 3), 0);
        CHECK.argument("setPolicy(1, 4)", () -> x.setPolicy(1, 4));
        CHECK.argument("setPolicy(1, -1)", () -> x.setPolicy(1, -1));
        CHECK.argument("setPolicy(2, 0)", () -> x.setPolicy(2, 0));
        CHECK.argument("setPolicy(-1, 0)", () -> x.setPolicy(-1, 0));
        CHECK.same("the policy after refusals", x.domainValue(1, 5), 3);
        CHECK.same("the policy of the other domain", x.domainValue(0, 5), 2);
        CHECK.about("promise 9: 0 to 99999; returns the previous limit");
        CHECK.same("setLimit(1, 0)", x.setLimit(1, 0), 600);
        CHECK.same("setLimit(1, 99999)", x.setLimit(1, 99999), 0);
        CHECK.argument("setLimit(1, 100000)", () -> x.setLimit(1, 100000));
        CHECK.argument("setLimit(1, -1)", () -> x.setLimit(1, -1));
        CHECK.argument("setLimit(2, 0)", () -> x.setLimit(2, 0));
        CHECK.argument("setLimit(-1, 0)", () -> x.setLimit(-1, 0));
        CHECK.same("the limit after refusals", x.domainValue(1, 4), 99999);
        CHECK.same("the limit of the other domain", x.domainValue(0, 4), 500);
        CHECK.about("promise 10: 0 to 9999; returns the previous ambient temperature");
        CHECK.same("setAmbient(0)", x.setAmbient(0), 42);
        CHECK.same("setAmbient(9999)", x.setAmbient(9999), 0);
        CHECK.argument("setAmbient(10000)", () -> x.setAmbient(10000));
        CHECK.argument("setAmbient(-1)", () -> x.setAmbient(-1));
        CHECK.same("setAmbient after refusals", x.setAmbient(9999), 9999);
        CHECK.about("promise 10: the temperature itself stays");
        CHECK.same("temperature(0)", x.temperature(0), 42);
        CHECK.about("section 6: a setting that changes nothing is an action, too; a refused one is none");
        CHECK.same("undo()", x.undo(), 6);
    }

    private static void ticksAtTheirEnds() {
        CHECK.about("promise 11: 1 to 500");
        ThermalCoreScheduler x = Check.loaded(COOL);
        for (int wrong : new int[] {0, -1, 501, Integer.MIN_VALUE, Integer.MAX_VALUE}) {
            CHECK.argument("tick(" + wrong + ")", () -> x.tick(wrong));
            CHECK.same("clock() after it", x.clock(), 0);
        }
        CHECK.same("tick(1)", x.tick(1), 0);
        CHECK.same("clock()", x.clock(), 1);
        CHECK.same("tick(500)", x.tick(500), 0);
        CHECK.same("clock()", x.clock(), 501);
        CHECK.about("promise 11: this is one action");
        CHECK.same("undo() of tick(500)", x.undo(), 1);
        CHECK.same("clock()", x.clock(), 1);
        CHECK.about("promise 11: the number of jobs that became done");
        x.addJob(0, 0, 0, 0, 11, 9);
        x.addJob(1, 0, 0, 0, 2, 9);
        x.addJob(1, 0, 0, 0, 3, 9);
        CHECK.same("tick(1)", x.tick(1), 0);
        CHECK.same("tick(1)", x.tick(1), 2);
        CHECK.same("tick(1)", x.tick(1), 1);
        CHECK.same("tick(1) when all are over", x.tick(1), 0);
    }

    // ---- section 3

    private static void doneExactlyOrBeyond() {
        CHECK.about("section 4 (4): a job whose remaining work is 0 or less is done, at the clock + 1");
        int[] works = {1, 9, 10, 11, 20, 21};
        int[] ends = {1, 1, 1, 2, 2, 3};
        for (int i = 0; i < works.length; i++) {
            ThermalCoreScheduler x = Check.loaded(COOL);
            x.addJob(0, 0, 0, 0, works[i], 99);
            x.tick(1);
            boolean done = works[i] <= 10;
            CHECK.same("jobValue(0, 7) of " + works[i], x.jobValue(0, 7), done ? DONE : RUNNING);
            CHECK.same("jobValue(0, 6) of " + works[i], x.jobValue(0, 6), done ? 0 : works[i] - 10);
            CHECK.same("jobOn(0, 0) of " + works[i], x.jobOn(0, 0), done ? -2 : 0);
            x.tick(5);
            CHECK.same("doneAt(0) of " + works[i], x.doneAt(0), ends[i]);
            CHECK.same("jobValue(0, 6) of " + works[i], x.jobValue(0, 6), 0);
        }
    }

    private static void lateAfterTheDeadline() {
        CHECK.about("section 3: a job that is done is late if it was done after its deadline");
        for (int time = 1; time <= 6; time++) {
            ThermalCoreScheduler x = Check.loaded(COOL);
            x.addJob(1, 0, 2, 0, 3, time);
            x.tick(10);
            CHECK.same("doneAt(0)", x.doneAt(0), 5);
            CHECK.same("lateJobs() with the deadline " + (2 + time), x.lateJobs(), 2 + time < 5 ? 1 : 0);
        }
    }

    private static void firstEstimateOfAKind() {
        CHECK.about("section 3: the estimate becomes its work if it is the first job of this kind that is done");
        ThermalCoreScheduler x = Check.loaded(COOL);
        CHECK.same("estimate(0) at first", x.estimate(0), 0);
        x.addJob(0, 0, 0, 0, 3, 9);
        x.tick(1);
        CHECK.same("estimate(0)", x.estimate(0), 3);
        CHECK.same("estimate(1)", x.estimate(1), 0);
        CHECK.about("section 3: otherwise estimate + (work - estimate) / 4, truncated toward zero");
        int[] works = {6, 7, 4, 1, 3, 2, 1, 10};
        int[] due = {3, 4, 4, 4, 4, 4, 4, 5};
        for (int i = 0; i < works.length; i++) {
            x.addJob(0, 0, 0, 0, works[i], 9);
            x.tick(1);
            CHECK.same("estimate(0) after " + works[i], x.estimate(0), due[i]);
        }
        x.addJob(0, 0, 0, 0, 1, 9);
        x.tick(1);
        CHECK.same("estimate(0) four below", x.estimate(0), 4);
        CHECK.about("section 3: two jobs of a kind that are done in one tick, by their cores");
        x.addJob(0, 1, 0, 0, 4, 9);
        x.addJob(0, 1, 0, 0, 10, 8);
        x.tick(1);
        CHECK.same("estimate(1)", x.estimate(1), 10 - 1);
    }

    // ---- section 4 (1)

    private static void slackEndsAtTheClock() {
        CHECK.about("section 4 (1): a release tick + slack that is not greater than the clock");
        for (int delay : new int[] {0, 1, 3, 999}) {
            for (int slack : new int[] {0, 1, 4, 999}) {
                ThermalCoreScheduler x = Check.loaded(COOL);
                x.addJob(0, 0, delay, slack, 5, 9999);
                for (int left = delay + slack; left > 0; left -= 500) {
                    x.tick(Math.min(left, 500));
                }
                CHECK.same("clock()", x.clock(), delay + slack);
                CHECK.same("jobValue(0, 7) just before", x.jobValue(0, 7), WAITING);
                x.tick(1);
                CHECK.same("doneAt(0)", x.doneAt(0), delay + slack + 1);
            }
        }
    }

    private static void awakeDomainReleasesAtTheClock() {
        CHECK.about("section 4 (1): if the domain is awake, all whose release tick is not greater than the clock");
        for (int delay : new int[] {1, 2, 5, 500}) {
            ThermalCoreScheduler x = Check.loaded(COOL);
            x.addJob(1, 0, 0, 0, 9999, 9999);
            x.addJob(1, 0, delay, 999, 9, 9999);
            x.tick(delay);
            stages(x, RUNNING, WAITING);
            x.tick(1);
            stages(x, RUNNING, RUNNING);
            CHECK.same("jobValue(1, 6)", x.jobValue(1, 6), 8);
        }
    }

    private static void releasedTogether() {
        CHECK.about("section 4 (1): .. then all its waiting jobs whose release tick is not greater than the clock");
        ThermalCoreScheduler x = Check.loaded(COOL);
        x.addJob(1, 0, 2, 3, 99, 99);
        x.addJob(1, 0, 5, 999, 99, 99);
        x.addJob(1, 0, 6, 999, 99, 99);
        x.addJob(0, 0, 0, 6, 99, 99);
        x.tick(5);
        stages(x, WAITING, WAITING, WAITING, WAITING);
        x.tick(1);
        CHECK.about("section 4 (1): .. of this domain, not of another");
        stages(x, RUNNING, RUNNING, WAITING, WAITING);
        x.tick(1);
        stages(x, RUNNING, RUNNING, RUNNING, RUNNING);
    }

    private static void awakeByAJobOnACore() {
        CHECK.about("section 4 (1): a domain is awake if one of its cores has a job: not if the job is done");
        ThermalCoreScheduler x = Check.loaded(COOL);
        x.addJob(0, 0, 0, 0, 10, 99);
        x.addJob(0, 0, 1, 2, 10, 99);
        x.tick(3);
        stages(x, DONE, WAITING);
        x.tick(1);
        stages(x, DONE, DONE);
        CHECK.about("section 4 (1): .. nor if the job was cancelled");
        x.addJob(0, 0, 0, 0, 99, 99);
        x.addJob(0, 0, 1, 2, 10, 99);
        x.tick(1);
        x.cancelJob(2);
        x.tick(2);
        stages(x, DONE, DONE, CANCELLED, WAITING);
        x.tick(1);
        CHECK.same("doneAt(3)", x.doneAt(3), 8);
        CHECK.about("section 4 (1): .. nor if its jobs are ready only");
        ThermalCoreScheduler y = Check.loaded("system 0;domain 1 99999 0 1 0 0 0 min;level 10 1;");
        y.addJob(0, 0, 0, 0, 10, 9);
        y.addJob(0, 0, 0, 0, 20, 9);
        y.addJob(0, 0, 1, 9, 10, 9);
        y.tick(1);
        stages(y, DONE, READY, WAITING);
        y.tick(1);
        stages(y, DONE, RUNNING, WAITING);
        y.tick(1);
        stages(y, DONE, DONE, READY);
        CHECK.about("section 4 (1): .. nor if another domain has one");
        x.addJob(1, 0, 0, 0, 99, 99);
        x.addJob(0, 0, 0, 3, 10, 99);
        x.tick(3);
        CHECK.same("jobValue(5, 7)", x.jobValue(5, 7), WAITING);
    }

    // ---- section 4 (2)

    private static void leastDeadlineThenLowestNumber() {
        CHECK.about("section 4 (2): the least deadline, of several the lowest number; cores by ascending number");
        ThermalCoreScheduler x = Check.loaded(COOL);
        int[] times = {7, 6, 7, 6, 7, 8, 6};
        for (int time : times) {
            x.addJob(1, 0, 0, 0, 2, time);
        }
        x.tick(1);
        int[] first = {1, 3, 6, 0};
        for (int core = 0; core < 4; core++) {
            CHECK.same("jobOn(1, " + core + ")", x.jobOn(1, core), first[core]);
        }
        x.tick(2);
        int[] second = {2, 4, 5, -2};
        for (int core = 0; core < 4; core++) {
            CHECK.same("jobOn(1, " + core + ") after two more", x.jobOn(1, core), second[core]);
        }
        CHECK.about("section 4 (2): each core without a job: the lowest of two free ones, between busy ones");
        x.tick(1);
        for (int job = 0; job < 4; job++) {
            x.addJob(1, 0, 0, 0, 9, 9);
        }
        x.tick(1);
        x.cancelJob(8);
        x.cancelJob(10);
        x.addJob(1, 0, 0, 0, 9, 99);
        x.tick(1);
        int[] third = {7, 11, 9, -2};
        for (int core = 0; core < 4; core++) {
            CHECK.same("jobOn(1, " + core + ") at the end", x.jobOn(1, core), third[core]);
        }
    }

    private static void wakeUps() {
        CHECK.about("section 4 (2): not awake in (1) and a core has a job now");
        ThermalCoreScheduler x = Check.loaded(COOL);
        CHECK.same("wake-ups at first", x.domainValue(0, 3), 0);
        x.tick(2);
        CHECK.same("wake-ups without jobs", x.domainValue(0, 3), 0);
        x.addJob(0, 0, 0, 0, 20, 9);
        x.addJob(0, 0, 0, 0, 10, 9);
        x.addJob(0, 0, 0, 0, 20, 99);
        x.tick(1);
        CHECK.same("two cores wake up at once", x.domainValue(0, 3), 1);
        x.tick(1);
        CHECK.same("a job joins one that runs", x.domainValue(0, 3), 1);
        x.tick(1);
        CHECK.same("a job runs on", x.domainValue(0, 3), 1);
        CHECK.same("it is done", x.doneAt(2), 5);
        x.addJob(0, 0, 0, 0, 10, 9);
        x.addJob(0, 0, 0, 0, 10, 9);
        x.addJob(0, 0, 0, 0, 10, 9);
        x.tick(1);
        CHECK.same("another wake-up", x.domainValue(0, 3), 2);
        x.tick(1);
        CHECK.same("a ready job after a tick in which all were done", x.domainValue(0, 3), 3);
        CHECK.same("wake-ups of the other domain", x.domainValue(1, 3), 0);
    }

    // ---- section 4 (3)

    private static ThermalCoreScheduler demanding(int slack, int work, int time) {
        ThermalCoreScheduler x = Check.loaded("system 0;domain 1 99999 0 1 0 4 0 demand;level 5 1;level 10 2;"
                + "level 20 3;");
        x.addJob(0, 0, 0, slack, work, time);
        x.tick(slack + 1);
        return x;
    }

    private static void demandAtEachFrequency() {
        CHECK.about("section 4 (3): the lowest level whose frequency is at least the requirement, rounded up");
        int[][] one = {{1, 0}, {4, 0}, {5, 0}, {6, 1}, {10, 1}, {11, 2}, {20, 2}};
        for (int[] due : one) {
            CHECK.same("level for " + due[0] + " in 1 tick", demanding(0, due[0], 1).level(0), due[1]);
            CHECK.same("level for " + (3 * due[0]) + " in 3", demanding(0, 3 * due[0], 3).level(0), due[1]);
            CHECK.same("level for " + (3 * due[0] - 2) + " in 3", demanding(0, 3 * due[0] - 2, 3).level(0), due[1]);
        }
        CHECK.same("level for 9999 in 9999", demanding(0, 9999, 9999).level(0), 0);
        CHECK.about("section 4 (3): .. the highest level if there is none");
        CHECK.same("level for 21 in 1", demanding(0, 21, 1).level(0), 2);
        CHECK.same("level for 9999 in 1", demanding(0, 9999, 1).level(0), 2);
    }

    private static void demandAtAndAfterTheDeadline() {
        CHECK.about("section 4 (3): max(1, deadline - clock)");
        int[][] due = {{5, 0}, {6, 1}, {10, 1}, {11, 2}, {20, 2}, {21, 2}};
        for (int[] row : due) {
            CHECK.same("one tick before the deadline", demanding(1, row[0], 2).level(0), row[1]);
            CHECK.same("at the deadline", demanding(2, row[0], 2).level(0), row[1]);
            CHECK.same("one tick after the deadline", demanding(3, row[0], 2).level(0), row[1]);
            CHECK.same("long after the deadline", demanding(400, row[0], 2).level(0), row[1]);
        }
        CHECK.same("two ticks before the deadline", demanding(2, 10, 4).level(0), 0);
        CHECK.same("two ticks before the deadline", demanding(2, 11, 4).level(0), 1);
    }

    private static void demandOfTheOwnCoresAlone() {
        CHECK.about("section 4 (3): the requirement of a running job, of this domain alone");
        String domain = "domain 4 99999 0 1 0 4 0 demand;level 5 1;level 10 2;level 20 3;";
        for (int busy = 0; busy < 4; busy++) {
            ThermalCoreScheduler x = Check.loaded("system 0;" + domain.repeat(4));
            for (int other = 0; other < 4; other++) {
                for (int core = 0; core < 4; core++) {
                    x.addJob(other, 0, 0, 0, other == busy ? 990 : 90, 99);
                }
            }
            for (int passed = 0; passed < 2; passed++) {
                x.tick(1);
                for (int other = 0; other < 4; other++) {
                    CHECK.same("level(" + other + ") if " + busy + " is busy", x.level(other), other == busy ? 1 : 0);
                }
            }
        }
        CHECK.about("section 4 (3): the greatest requirement, on whichever core it is");
        for (int heavy = 0; heavy < 4; heavy++) {
            ThermalCoreScheduler y = Check.loaded("system 0;" + domain);
            for (int core = 0; core < 4; core++) {
                y.addJob(0, 0, 0, 0, core == heavy ? 100 : 1, 10);
            }
            y.tick(1);
            CHECK.same("level(0) with the heavy job on core " + heavy, y.level(0), 1);
        }
    }

    private static void policiesOfAnIdleDomain() {
        CHECK.about("section 4 (3): the policies with and without a job");
        int[] idle = {2, 0, 0, 0};
        int[] busy = {2, 0, 1, 2};
        for (int policy = 0; policy < 4; policy++) {
            ThermalCoreScheduler x = Check.loaded("system 0;domain 2 99999 0 1 0 4 0 min;level 5 1;level 10 2;"
                    + "level 20 3;");
            x.setPolicy(0, policy);
            x.tick(1);
            CHECK.same("the idle level of " + policy, x.level(0), idle[policy]);
            x.addJob(0, 0, 0, 0, 20, 2);
            x.tick(1);
            CHECK.same("the busy level of " + policy, x.level(0), busy[policy]);
            x.tick(4);
            CHECK.same("the level of " + policy + " after the job", x.level(0), idle[policy]);
        }
    }

    private static ThermalCoreScheduler credited(int base, int capacity, String policy) {
        return Check.loaded("system 0;domain 1 99999 0 1 0 " + base + " " + capacity + " " + policy
                + ";level 5 1;level 10 2;level 20 3;");
    }

    private static void creditsAtZero() {
        CHECK.about("section 4 (3): if the credits are 0, a level above the base level becomes the base level");
        for (int base = 0; base < 3; base++) {
            ThermalCoreScheduler x = credited(base, 0, "max");
            x.addJob(0, 0, 0, 0, 999, 99);
            x.tick(1);
            CHECK.same("the highest level with the base " + base, x.level(0), base);
            CHECK.same("that is no throttling", x.domainValue(0, 1), 0);
            x.setPolicy(0, 1);
            x.tick(1);
            CHECK.same("the lowest level with the base " + base, x.level(0), 0);
        }
        CHECK.about("section 4 (3): .. only if a core has a job");
        ThermalCoreScheduler y = credited(1, 0, "max");
        y.tick(1);
        CHECK.same("the level of an idle domain without credits", y.level(0), 2);
        CHECK.about("section 4 (3): .. not while a credit is left");
        ThermalCoreScheduler z = credited(1, 1, "max");
        z.addJob(0, 0, 0, 0, 999, 99);
        int[] levels = {2, 1, 2, 1};
        for (int due : levels) {
            z.tick(1);
            CHECK.same("the level with one credit", z.level(0), due);
            CHECK.same("the credits", z.domainValue(0, 0), due == 2 ? 0 : 1);
        }
    }

    private static void creditsAtTheCapacity() {
        CHECK.about("section 4 (4): at first the credit capacity; not above it");
        for (int capacity : new int[] {0, 1, 99}) {
            ThermalCoreScheduler x = credited(1, capacity, "race");
            CHECK.same("credits at first", x.domainValue(0, 0), capacity);
            x.tick(1);
            CHECK.same("credits of an idle domain", x.domainValue(0, 0), capacity);
            x.setPolicy(0, 1);
            x.addJob(0, 0, 0, 0, 500, 99);
            x.tick(1);
            CHECK.same("credits below the base level", x.domainValue(0, 0), capacity);
        }
        CHECK.about("section 4 (4): they decrease above the base level, and increase at it or below it");
        ThermalCoreScheduler y = credited(1, 5, "race");
        y.addJob(0, 0, 0, 0, 60, 99);
        y.tick(3);
        CHECK.same("after three ticks of a job", y.domainValue(0, 0), 2);
        y.tick(1);
        CHECK.same("after an idle tick", y.domainValue(0, 0), 3);
        y.addJob(0, 0, 0, 0, 20, 99);
        y.tick(1);
        CHECK.same("the tick in which the job is done counts", y.domainValue(0, 0), 2);
        y.tick(3);
        CHECK.same("at the capacity", y.domainValue(0, 0), 5);
        y.tick(1);
        CHECK.same("not above the capacity", y.domainValue(0, 0), 5);
        CHECK.about("section 4 (4): they increase in an idle tick, also at a level above the base level");
        y.setPolicy(0, 0);
        y.addJob(0, 0, 0, 0, 80, 99);
        y.tick(4);
        CHECK.same("after four ticks of a job", y.domainValue(0, 0), 1);
        y.tick(1);
        CHECK.same("level(0) of the idle domain", y.level(0), 2);
        CHECK.same("after an idle tick at the highest level", y.domainValue(0, 0), 2);
        CHECK.about("section 4 (4): they do not decrease at the base level");
        ThermalCoreScheduler z = credited(2, 5, "race");
        z.addJob(0, 0, 0, 0, 60, 99);
        z.tick(2);
        CHECK.same("at the base level", z.domainValue(0, 0), 5);
    }

    /** From 100 the levels lead to 150, 200 and 300; the order of the dues is that of the checks. */
    private static void limited(int limit, int policy, int level, int throttlings, int halts, int temperature) {
        ThermalCoreScheduler x = Check.loaded("system 100;domain 1 " + limit
                + " 100 500 0 4 9 max;level 10 50;level 20 100;level 30 200;");
        x.setPolicy(0, policy);
        x.addJob(0, 0, 0, 0, 100, 99);
        x.tick(1);
        String when = " at the limit " + limit + " with the policy " + policy;
        CHECK.same("level(0)" + when, x.level(0), level);
        CHECK.same("throttlings" + when, x.domainValue(0, 1), throttlings);
        CHECK.same("halts" + when, x.domainValue(0, 2), halts);
        CHECK.same("temperature(0)" + when, x.temperature(0), temperature);
        CHECK.same("remaining work" + when, x.jobValue(0, 6), halts > 0 ? 100 : 90 - 10 * level);
        CHECK.same("energy(0)" + when, x.energy(0), temperature - 100);
        CHECK.same("the job's stage" + when, x.jobValue(0, 7), RUNNING);
    }

    private static void loweredAboveTheLimit() {
        CHECK.about("section 4 (3): lowered as long as the level is above 0 and the temperature is above the limit");
        limited(99999, 0, 2, 0, 0, 300);
        limited(300, 0, 2, 0, 0, 300);
        limited(299, 0, 1, 1, 0, 200);
        limited(200, 0, 1, 1, 0, 200);
        limited(199, 0, 0, 1, 0, 150);
        limited(150, 0, 0, 1, 0, 150);
        CHECK.about("section 4 (3): the level is 0 and the temperature is above the limit: the domain halts");
        limited(149, 0, 0, 1, 1, 100);
        limited(100, 0, 0, 1, 1, 100);
        limited(0, 0, 0, 1, 1, 100);
        CHECK.about("section 4 (3): a level that is 0 already is not lowered: no throttling");
        limited(150, 1, 0, 0, 0, 150);
        limited(149, 1, 0, 0, 1, 100);
        limited(0, 1, 0, 0, 1, 100);
    }

    private static void powers(int limit, String powers, int level, int throttlings, int halts) {
        String[] p = powers.split(" ");
        ThermalCoreScheduler x = Check.loaded("system 100;domain 1 " + limit + " 100 500 0 4 9 max;level 10 " + p[0]
                + ";level 20 " + p[1] + ";level 30 " + p[2] + ";");
        x.addJob(0, 0, 0, 0, 100, 99);
        x.tick(1);
        CHECK.same("level(0) of " + powers + " at " + limit, x.level(0), level);
        CHECK.same("throttlings of " + powers + " at " + limit, x.domainValue(0, 1), throttlings);
        CHECK.same("halts of " + powers + " at " + limit, x.domainValue(0, 2), halts);
    }

    private static void loweredToTheFirstThatFits() {
        CHECK.about("section 4 (3): lowered as long as .. above the limit, whatever the powers of the levels are");
        powers(200, "50 300 100", 2, 0, 0);
        powers(199, "50 300 100", 0, 1, 0);
        powers(150, "300 50 300", 1, 1, 0);
        powers(149, "300 50 100", 0, 1, 1);
        powers(100, "0 0 0", 2, 0, 0);
        powers(99, "0 0 0", 0, 1, 1);
    }

    private static void idleDomainIsNotLowered() {
        CHECK.about("section 4 (3): .. if a core has a job");
        ThermalCoreScheduler x = Check.loaded("system 100;domain 1 0 100 1 9 0 0 max;level 10 50;level 20 60;");
        x.tick(5);
        CHECK.same("level(0)", x.level(0), 1);
        CHECK.same("throttlings", x.domainValue(0, 1), 0);
        CHECK.same("halts", x.domainValue(0, 2), 0);
        CHECK.same("energy(0)", x.energy(0), 45);
        CHECK.same("temperature(0)", x.temperature(0), 145);
    }

    // ---- section 4 (4) and (5)

    private static void powerOfHaltedAndIdleCores() {
        CHECK.about("section 4 (4): the power of the level for a core that had a job, the idle power for others");
        for (int jobs = 0; jobs <= 4; jobs++) {
            ThermalCoreScheduler x = Check.loaded("system 0;domain 4 99999 0 1 7 0 0 max;level 10 50;");
            for (int job = 0; job < jobs; job++) {
                x.addJob(0, 0, 0, 0, 10, 99);
            }
            CHECK.same("tick(1)", x.tick(1), jobs);
            CHECK.same("energy(0) of " + jobs + " jobs", x.energy(0), 50 * jobs + 7 * (4 - jobs));
            x.tick(1);
            CHECK.same("energy(0) after an idle tick", x.energy(0), 50 * jobs + 7 * (4 - jobs) + 28);
        }
        CHECK.about("section 4 (4): if the domain halts, the power is the idle power for each core; credits increase");
        ThermalCoreScheduler y = Check.loaded("system 0;domain 4 99999 100 1 7 0 3 max;level 1 50;level 2 60;");
        y.addJob(0, 0, 0, 0, 100, 99);
        y.addJob(0, 0, 0, 0, 100, 99);
        y.tick(2);
        CHECK.same("credits before", y.domainValue(0, 0), 1);
        CHECK.same("energy(0) before", y.energy(0), 2 * (2 * 60 + 2 * 7));
        y.setLimit(0, 0);
        CHECK.same("no job becomes done in a halt: tick(1)", y.tick(1), 0);
        CHECK.same("energy(0)", y.energy(0), 268 + 28);
        CHECK.same("credits", y.domainValue(0, 0), 2);
        CHECK.same("remaining work", y.jobValue(1, 6), 96);
        CHECK.same("no job becomes done in two: tick(2)", y.tick(2), 0);
        CHECK.same("credits at the capacity", y.domainValue(0, 0), 3);
        CHECK.same("halts", y.domainValue(0, 2), 3);
        CHECK.about("section 4 (4): halting ticks are not those of a wake-up or of a release");
        CHECK.same("wake-ups", y.domainValue(0, 3), 1);
    }

    private static int warmer(int heating, int power) {
        ThermalCoreScheduler x = Check.loaded("system 0;domain 1 99999 " + heating + " 1 0 0 0 max;level 1 " + power
                + ";");
        x.addJob(0, 0, 0, 0, 1, 1);
        x.tick(1);
        return x.temperature(0);
    }

    private static void truncatedDivisions() {
        CHECK.about("section 4 (5): H * power / 100, truncated");
        CHECK.same("1 * 99", warmer(1, 99), 0);
        CHECK.same("1 * 100", warmer(1, 100), 1);
        CHECK.same("1 * 199", warmer(1, 199), 1);
        CHECK.same("0 * 999", warmer(0, 999), 0);
        CHECK.same("999 * 0", warmer(999, 0), 0);
        CHECK.same("999 * 999", warmer(999, 999), 9980);
        CHECK.about("section 4 (5): (temperature - A) * C / 1000, truncated toward zero above and below");
        ThermalCoreScheduler x = Check.loaded("system 3;domain 1 99999 0 999 0 0 0 min;level 1 0;");
        int[][] ambientAndDue = {{2, 3}, {1, 2}, {1, 2}, {3, 2}, {4, 3}, {4, 3}, {1003, 1002}, {1003, 1002}, {0, 2},
            {0, 1}, {0, 1}, {9999, 9989}, {9999, 9998}, {9999, 9998}};
        for (int[] row : ambientAndDue) {
            x.setAmbient(row[0]);
            x.tick(1);
            CHECK.same("temperature(0) with the ambient " + row[0], x.temperature(0), row[1]);
        }
        CHECK.about("section 4 (5): cooling of 1");
        ThermalCoreScheduler y = Check.loaded("system 1000;domain 1 99999 0 1 0 0 0 min;level 1 0;");
        y.setAmbient(0);
        y.tick(1);
        CHECK.same("a difference of 1000", y.temperature(0), 999);
        y.tick(1);
        CHECK.same("a difference of 999", y.temperature(0), 999);
    }

    private static void greatestNumbers() {
        CHECK.about("section 1: products are computed without overflow");
        for (int cooling : new int[] {1, 2, 500, 999}) {
            ThermalCoreScheduler x = Check.loaded("system 9999;domain 4 99999 999 " + cooling
                    + " 99 4 99 max;level 1 999;");
            x.setAmbient(0);
            long temperature = 9999;
            for (int call = 0; call < 24; call++) {
                x.addJob(0, 0, 0, 0, 9999, 9999);
            }
            x.setLimit(0, 99999);
            long energy = 0;
            for (int call = 0; call < 12; call++) {
                x.tick(500);
                for (int passed = 0; passed < 500; passed++) {
                    boolean halts = temperature + 999L * 3996 / 100 - temperature * cooling / 1000 > 99999;
                    int power = halts ? 396 : 3996;
                    temperature += 999L * power / 100 - temperature * cooling / 1000;
                    energy += power;
                }
                CHECK.same("temperature(0) with the cooling " + cooling, (long) x.temperature(0), temperature);
                CHECK.same("energy(0) with the cooling " + cooling, (long) x.energy(0), energy);
            }
        }
    }

    private static void fiveHundredTwelveCalls() {
        CHECK.about("an object is used for at most 512 calls: the longest time that can pass");
        // Three calls of append, one of truncate and one of load.
        ThermalCoreScheduler x = Check.loaded("system 0;domain 4 99999 0 1 99 0 0 max;level 1 999;");
        for (int job = 0; job < 24; job++) {
            x.addJob(0, 0, 0, 0, 9999, 9999);
        }
        int done = 0;
        for (int call = 30; call < 512; call++) {
            done += x.tick(500);
        }
        CHECK.same("energy(0) in the 512th call", x.energy(0), 59994 * 3996 + 181006 * 396);
        CHECK.same("the jobs that became done", done, 24);
        CHECK.same("clock()", x.clock(), 241000);
    }
}
