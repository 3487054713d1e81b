/** The boundary cases of promises 12 to 26: what domains, jobs and kinds answer. */
public final class QueryEdgeTest {
    private static final Check CHECK = new Check("QueryEdgeTest");
    // The domains have 1 to 4 cores, 4 to 1 levels, and capacities, limits and policies of their own.
    private static final String FOUR = "system 50;domain 1 500 0 1 0 3 9 max;level 1 1;level 2 1;level 3 1;level 4 1;"
            + "domain 2 600 0 1 0 1 8 min;level 1 1;level 2 1;level 3 1;domain 3 700 0 1 0 0 7 demand;level 1 1;"
            + "level 2 1;domain 4 800 0 1 0 0 6 race;level 1 1;";
    private static final String ONE = "system 0;domain 1 99999 0 1 0 0 0 min;level 10 1;";

    public static void main(String[] args) {
        clockAtFirst();
        domainsThatDoNotExist();
        levelBeforeTheFirstTickAndInAHalt();
        energyAtFirst();
        eachDomainValue();
        coresThatDoNotExist();
        placesOfTheThrottleOrder();
        meanPowerAtTheClockZero();
        meanPowerOfLargeEnergies();
        numberOfJobs();
        eachJobValue();
        doneAtInEachStage();
        setOfLateJobs();
        placesOfTheQueue();
        queueOfWaitingAndReadyJobs();
        kindsOfEstimates();
        deviationOfNothing();
        deviationFromThePresentEstimate();
        CHECK.end();
    }

    private static void clockAtFirst() {
        CHECK.about("promise 12: the number of ticks that have passed, 0 at first");
        ThermalCoreScheduler x = Check.loaded(ONE);
        CHECK.same("clock()", x.clock(), 0);
        x.tick(1);
        CHECK.same("clock()", x.clock(), 1);
        for (int i = 0; i < 200; i++) {
            x.tick(500);
        }
        CHECK.same("clock()", x.clock(), 100001);
    }

    private static void domainsThatDoNotExist() {
        CHECK.about("promises 13 to 19: a domain that does not exist");
        for (String text : new String[] {ONE, ONE + "domain 1 9 9 9 9 0 9 min;level 1 1;", FOUR}) {
            ThermalCoreScheduler x = Check.loaded(text);
            x.tick(1);
            int domains = text.split("domain").length - 1;
            for (int domain : new int[] {-1, domains, domains + 1, 4, Integer.MIN_VALUE, Integer.MAX_VALUE}) {
                CHECK.argument("temperature(" + domain + ")", () -> x.temperature(domain));
                CHECK.argument("level(" + domain + ")", () -> x.level(domain));
                CHECK.argument("energy(" + domain + ")", () -> x.energy(domain));
                CHECK.argument("domainValue(" + domain + ", 0)", () -> x.domainValue(domain, 0));
                CHECK.argument("jobOn(" + domain + ", 0)", () -> x.jobOn(domain, 0));
                CHECK.argument("meanPower(" + domain + ")", () -> x.meanPower(domain));
                CHECK.argument("queued(" + domain + ", 0)", () -> x.queued(domain, 0));
            }
            int ambient = text.equals(FOUR) ? 50 : 0;
            CHECK.same("temperature of the first", x.temperature(0), ambient);
            CHECK.same("jobOn of the last", x.jobOn(domains - 1, 0), -2);
        }
    }

    private static void levelBeforeTheFirstTickAndInAHalt() {
        CHECK.about("promise 14: 0 before the first tick");
        ThermalCoreScheduler x = Check.loaded("system 100;domain 1 300 100 500 0 4 9 max;level 10 50;level 20 100;"
                + "level 30 200;");
        CHECK.same("level(0)", x.level(0), 0);
        x.addJob(0, 0, 0, 0, 500, 99);
        CHECK.same("level(0) before a tick", x.level(0), 0);
        CHECK.about("promise 14: the level in the latest tick");
        x.tick(1);
        CHECK.same("level(0)", x.level(0), 2);
        x.setPolicy(0, 1);
        CHECK.same("level(0) after a new policy", x.level(0), 2);
        x.tick(1);
        CHECK.same("level(0) after a tick with it", x.level(0), 0);
        CHECK.about("promise 14: 0 if the domain halted in it");
        x.setPolicy(0, 0);
        x.tick(1);
        x.setLimit(0, 100);
        x.tick(1);
        CHECK.same("halts", x.domainValue(0, 2), 1);
        CHECK.same("level(0)", x.level(0), 0);
        CHECK.about("promise 41: the level is as before, too");
        x.undo();
        CHECK.same("level(0), one below the highest for the limit", x.level(0), 1);
    }

    private static void energyAtFirst() {
        CHECK.about("promise 15: 0 at first");
        ThermalCoreScheduler x = Check.loaded("system 0;domain 4 0 0 1 99 0 0 max;level 1 1;"
                + "domain 1 0 0 1 0 0 0 max;level 1 999;");
        CHECK.same("energy(0)", x.energy(0), 0);
        CHECK.same("energy(1)", x.energy(1), 0);
        x.tick(500);
        CHECK.same("energy(0) of idling", x.energy(0), 198000);
        CHECK.same("energy(1) of idling for nothing", x.energy(1), 0);
    }

    private static void eachDomainValue() {
        CHECK.about("promise 16: what is 0 to 8");
        ThermalCoreScheduler x = Check.loaded(FOUR);
        int[][] due = {{9, 0, 0, 0, 500, 0, 4, 1, 3}, {8, 0, 0, 0, 600, 1, 3, 2, 1}, {7, 0, 0, 0, 700, 2, 2, 3, 0},
            {6, 0, 0, 0, 800, 3, 1, 4, 0}};
        for (int domain = 0; domain < 4; domain++) {
            for (int what = 0; what < 9; what++) {
                CHECK.same("domainValue(" + domain + ", " + what + ")", x.domainValue(domain, what),
                        due[domain][what]);
            }
            int d = domain;
            for (int what : new int[] {-1, 9, Integer.MIN_VALUE, Integer.MAX_VALUE}) {
                CHECK.argument("domainValue(" + d + ", " + what + ")", () -> x.domainValue(d, what));
            }
        }
    }

    private static void coresThatDoNotExist() {
        CHECK.about("promise 17: a core that does not exist");
        ThermalCoreScheduler x = Check.loaded(FOUR);
        for (int domain = 0; domain < 4; domain++) {
            int d = domain;
            for (int core = 0; core <= domain; core++) {
                CHECK.same("jobOn(" + d + ", " + core + ")", x.jobOn(d, core), -2);
                x.addJob(d, 0, 0, 0, 999, 99);
            }
            for (int core : new int[] {-1, d + 1, 4, Integer.MIN_VALUE, Integer.MAX_VALUE}) {
                CHECK.argument("jobOn(" + d + ", " + core + ")", () -> x.jobOn(d, core));
            }
        }
        CHECK.about("promise 17: the number of the job; -2 if it has none");
        x.tick(1);
        int job = 0;
        for (int domain = 0; domain < 4; domain++) {
            for (int core = 0; core <= domain; core++) {
                CHECK.same("jobOn(" + domain + ", " + core + ")", x.jobOn(domain, core), job);
                job++;
            }
        }
        x.cancelJob(9);
        CHECK.same("jobOn(3, 3) after cancelling", x.jobOn(3, 3), -2);
        CHECK.same("jobOn(3, 2) after cancelling", x.jobOn(3, 2), 8);
    }

    private static void placesOfTheThrottleOrder() {
        CHECK.about("promise 18: not so many domains; a negative place");
        for (int domains = 1; domains <= 4; domains++) {
            String text = "system 50;" + "domain 1 70 0 1 0 0 0 min;level 1 1;".repeat(domains);
            ThermalCoreScheduler x = Check.loaded(text);
            for (int place = 0; place < domains; place++) {
                CHECK.same("throttleOrder(" + place + ") of equals", x.throttleOrder(place), place);
            }
            for (int place : new int[] {domains, 4, Integer.MAX_VALUE}) {
                CHECK.element("throttleOrder(" + place + ")", () -> x.throttleOrder(place));
            }
            CHECK.argument("throttleOrder(-1)", () -> x.throttleOrder(-1));
            CHECK.argument("throttleOrder(MIN)", () -> x.throttleOrder(Integer.MIN_VALUE));
            CHECK.about("promise 18: the least difference first, below zero, too");
            x.setLimit(domains - 1, 49);
            CHECK.same("throttleOrder(0)", x.throttleOrder(0), domains - 1);
            for (int domain = 0; domain < domains; domain++) {
                x.setLimit(domain, 40 - domain);
            }
            for (int place = 0; place < domains; place++) {
                CHECK.same("throttleOrder(" + place + ") downwards", x.throttleOrder(place), domains - 1 - place);
            }
            CHECK.about("promise 18: not so many domains; a negative place");
        }
    }

    private static void meanPowerAtTheClockZero() {
        CHECK.about("promise 19: ArithmeticException if the clock is 0");
        ThermalCoreScheduler x = Check.loaded("system 0;domain 1 0 0 1 7 0 0 max;level 1 1;");
        CHECK.arithmetic("meanPower(0)", () -> x.meanPower(0));
        x.tick(1);
        CHECK.same("meanPower(0) after a tick", x.meanPower(0), 7f);
        x.undo();
        CHECK.arithmetic("meanPower(0) after undo()", () -> x.meanPower(0));
        CHECK.about("section 6: an argument out of its range comes first");
        CHECK.argument("meanPower(1)", () -> x.meanPower(1));
        CHECK.argument("meanPower(-1)", () -> x.meanPower(-1));
    }

    private static void meanPowerOfLargeEnergies() {
        CHECK.about("promise 19: both converted to float");
        ThermalCoreScheduler x = Check.loaded("system 0;domain 4 99999 0 1 0 0 0 max;level 1 997;");
        for (int job = 0; job < 24; job++) {
            x.addJob(0, 0, 0, 0, 9999, 9999);
        }
        int different = 0;
        for (int call = 1; call <= 100; call++) {
            x.tick(491);
            int energy = x.energy(0);
            CHECK.same("energy(0)", energy, 491 * 3988 * call);
            CHECK.same("meanPower(0) of " + energy, x.meanPower(0), (float) energy / (float) (491 * call));
            different += (float) energy / (float) (491 * call) != (float) ((double) energy / (491 * call)) ? 1 : 0;
        }
        CHECK.same("some energies are rounded", different > 0, true);
    }

    private static void numberOfJobs() {
        CHECK.about("promise 20: 0 to 24");
        ThermalCoreScheduler x = Check.loaded(ONE);
        for (int jobs = 0; jobs <= 24; jobs++) {
            CHECK.same("jobCount()", x.jobCount(), jobs);
            x.addJob(0, 0, 0, 0, 1, 1);
        }
        CHECK.same("jobCount() after a 25th", x.jobCount(), 24);
        x.cancelJob(3);
        x.tick(50);
        CHECK.same("jobCount() of done and cancelled jobs", x.jobCount(), 24);
    }

    private static void eachJobValue() {
        ThermalCoreScheduler x = Check.loaded(FOUR);
        CHECK.about("promises 21, 22 and 27: a job that does not exist");
        for (int jobs = 0; jobs <= 24; jobs++) {
            for (int job : new int[] {-1, jobs, jobs + 1, Integer.MIN_VALUE, Integer.MAX_VALUE}) {
                CHECK.argument("jobValue(" + job + ", 0) of " + jobs, () -> x.jobValue(job, 0));
                CHECK.argument("doneAt(" + job + ") of " + jobs, () -> x.doneAt(job));
                CHECK.argument("willBeDone(" + job + ") of " + jobs, () -> x.willBeDone(job));
                CHECK.argument("cancelJob(" + job + ") of " + jobs, () -> x.cancelJob(job));
            }
            if (jobs < 24) {
                x.addJob(jobs % 4, jobs % 8, jobs, 2 * jobs, 3 + jobs, 4 + jobs);
            }
        }
        CHECK.about("promise 21: what is 0 to 7");
        for (int job : new int[] {0, 23}) {
            int[] due = {job % 4, job % 8, job, 2 * job, 3 + job, 4 + 2 * job, 3 + job, 0};
            for (int what = 0; what < 8; what++) {
                CHECK.same("jobValue(" + job + ", " + what + ")", x.jobValue(job, what), due[what]);
            }
            for (int what : new int[] {-1, 8, Integer.MIN_VALUE, Integer.MAX_VALUE}) {
                CHECK.argument("jobValue(" + job + ", " + what + ")", () -> x.jobValue(job, what));
            }
        }
    }

    private static void doneAtInEachStage() {
        CHECK.about("promise 22: -2 if it is not done");
        ThermalCoreScheduler x = Check.loaded(ONE);
        x.addJob(0, 0, 0, 0, 10, 1);
        x.addJob(0, 0, 0, 0, 20, 2);
        x.addJob(0, 0, 0, 0, 20, 3);
        x.addJob(0, 0, 9, 9, 20, 3);
        x.addJob(0, 0, 9, 9, 20, 3);
        x.cancelJob(4);
        int[] first = {-2, -2, -2, -2, -2};
        int[] later = {1, -2, -2, -2, -2};
        int[] last = {1, 3, -2, -2, -2};
        for (int job = 0; job < 5; job++) {
            CHECK.same("doneAt(" + job + ") at first", x.doneAt(job), first[job]);
        }
        x.tick(1);
        x.tick(1);
        for (int job = 0; job < 5; job++) {
            CHECK.same("doneAt(" + job + ") of a running, a ready and a waiting job", x.doneAt(job), later[job]);
        }
        x.tick(1);
        x.cancelJob(2);
        for (int job = 0; job < 5; job++) {
            CHECK.same("doneAt(" + job + ") of cancelled jobs", x.doneAt(job), last[job]);
        }
        CHECK.about("promise 22: the clock at that time, not at this");
        x.tick(5);
        CHECK.same("doneAt(0)", x.doneAt(0), 1);
    }

    private static void setOfLateJobs() {
        CHECK.about("promise 23: the jobs that are done and late");
        ThermalCoreScheduler x = Check.loaded(ONE);
        CHECK.same("lateJobs() without jobs", x.lateJobs(), 0);
        for (int job = 0; job < 24; job++) {
            x.addJob(0, 0, 0, 0, 10, job == 0 || job == 23 ? 1 : 24);
        }
        x.tick(1);
        CHECK.same("lateJobs(): job 0 is done at its deadline", x.lateJobs(), 0);
        x.tick(1);
        CHECK.same("lateJobs(): job 23 is done behind it", x.lateJobs(), 1 << 23);
        x.tick(22);
        CHECK.same("lateJobs(): the others are in time", x.lateJobs(), 1 << 23);
        CHECK.about("promise 23: not those whose deadline is over while they run or wait");
        ThermalCoreScheduler y = Check.loaded(ONE);
        y.addJob(0, 0, 0, 0, 90, 1);
        y.addJob(0, 0, 0, 0, 10, 2);
        y.addJob(0, 0, 0, 0, 10, 3);
        y.tick(8);
        CHECK.same("lateJobs()", y.lateJobs(), 0);
        y.cancelJob(2);
        y.tick(2);
        CHECK.same("lateJobs()", y.lateJobs(), 3);
    }

    private static void placesOfTheQueue() {
        CHECK.about("promise 24: not so many jobs; a negative place");
        ThermalCoreScheduler x = Check.loaded(ONE + "domain 1 9 9 9 9 0 9 min;level 1 1;");
        for (int jobs = 0; jobs <= 24; jobs++) {
            int count = jobs;
            for (int place = 0; place < jobs; place++) {
                CHECK.same("queued(0, " + place + ") of " + jobs, x.queued(0, place), place);
            }
            CHECK.element("queued(0, " + count + ")", () -> x.queued(0, count));
            CHECK.element("queued(0, MAX)", () -> x.queued(0, Integer.MAX_VALUE));
            CHECK.argument("queued(0, -1)", () -> x.queued(0, -1));
            CHECK.argument("queued(0, MIN)", () -> x.queued(0, Integer.MIN_VALUE));
            CHECK.element("queued(1, 0) of the other domain", () -> x.queued(1, 0));
            x.addJob(0, 0, 0, 0, 1, 5);
        }
        CHECK.about("section 6: an argument out of its range comes first");
        CHECK.argument("queued(2, 99)", () -> x.queued(2, 99));
        CHECK.argument("queued(-1, 0)", () -> x.queued(-1, 0));
    }

    private static void queueOfWaitingAndReadyJobs() {
        CHECK.about("promise 24: all waiting and ready jobs, by ascending deadline, then number");
        ThermalCoreScheduler x = Check.loaded(ONE);
        x.addJob(0, 0, 0, 0, 10, 1);
        x.addJob(0, 0, 0, 0, 50, 2);
        x.addJob(0, 0, 0, 0, 50, 30);
        x.addJob(0, 0, 20, 0, 50, 9);
        x.addJob(0, 0, 20, 0, 50, 10);
        x.addJob(0, 0, 1, 0, 50, 30);
        x.addJob(0, 0, 0, 0, 50, 8);
        x.cancelJob(6);
        x.tick(2);
        int[] stages = {3, 2, 1, 0, 0, 1, 4};
        for (int job = 0; job < 7; job++) {
            CHECK.same("jobValue(" + job + ", 7)", x.jobValue(job, 7), stages[job]);
        }
        int[] due = {3, 2, 4, 5};
        for (int place = 0; place < due.length; place++) {
            CHECK.same("queued(0, " + place + ")", x.queued(0, place), due[place]);
        }
        CHECK.element("queued(0, 4)", () -> x.queued(0, 4));
    }

    private static void kindsOfEstimates() {
        CHECK.about("promises 25 and 26: a kind of 0 to 7");
        ThermalCoreScheduler x = Check.loaded(ONE);
        for (int kind : new int[] {-1, 8, Integer.MIN_VALUE, Integer.MAX_VALUE}) {
            CHECK.argument("estimate(" + kind + ")", () -> x.estimate(kind));
            CHECK.argument("deviation(" + kind + ")", () -> x.deviation(kind));
        }
        for (int kind = 0; kind < 8; kind++) {
            CHECK.same("estimate(" + kind + ") at first", x.estimate(kind), 0);
            x.addJob(0, kind, 0, 0, 1 + kind, 99);
        }
        x.tick(8);
        for (int kind = 0; kind < 8; kind++) {
            CHECK.same("estimate(" + kind + ")", x.estimate(kind), 1 + kind);
            CHECK.same("deviation(" + kind + ")", x.deviation(kind), 0.0);
        }
    }

    private static void deviationOfNothing() {
        CHECK.about("promise 26: ArithmeticException if no job of this kind is done");
        ThermalCoreScheduler x = Check.loaded(ONE);
        for (int kind = 0; kind < 8; kind++) {
            int k = kind;
            CHECK.arithmetic("deviation(" + k + ")", () -> x.deviation(k));
        }
        x.addJob(0, 3, 0, 0, 15, 99);
        x.addJob(0, 4, 0, 0, 15, 99);
        x.cancelJob(1);
        x.tick(1);
        CHECK.arithmetic("deviation(3) of a running job", () -> x.deviation(3));
        CHECK.arithmetic("deviation(4) of a cancelled job", () -> x.deviation(4));
        x.tick(1);
        CHECK.same("deviation(3) of a done job", x.deviation(3), 0.0);
        x.undo();
        CHECK.arithmetic("deviation(3) after undo()", () -> x.deviation(3));
    }

    private static void deviationFromThePresentEstimate() {
        CHECK.about("promise 26: the sum of |work - present estimate|, divided as doubles");
        ThermalCoreScheduler x = Check.loaded("system 0;domain 1 99999 0 1 0 0 0 min;level 999 1;");
        int[] works = {10, 1, 30, 9999};
        // The estimates are 10, 8, 13 and 2509.
        double[] due = {0.0, (2.0 + 7.0) / 2.0, (3.0 + 12.0 + 17.0) / 3.0, (2499.0 + 2508.0 + 2479.0 + 7490.0) / 4.0};
        for (int i = 0; i < works.length; i++) {
            x.addJob(0, 7, 0, 0, works[i], 99);
            x.tick(12);
            CHECK.same("deviation(7) after " + works[i], x.deviation(7), due[i]);
        }
        CHECK.same("estimate(7)", x.estimate(7), 2509);
        CHECK.about("promise 26: jobs that are not done do not count");
        x.addJob(0, 7, 0, 0, 5000, 99);
        x.addJob(0, 7, 0, 0, 5000, 99);
        x.cancelJob(5);
        x.tick(1);
        CHECK.same("deviation(7)", x.deviation(7), due[3]);
        CHECK.about("promise 26: the greatest number of jobs");
        ThermalCoreScheduler y = Check.loaded("system 0;domain 4 99999 0 1 0 0 0 min;level 999 1;");
        for (int job = 0; job < 24; job++) {
            y.addJob(0, 0, 0, 0, job == 0 ? 1 : 9999, job + 1);
        }
        y.tick(500);
        int estimate = 1;
        for (int job = 1; job < 24; job++) {
            estimate += (9999 - estimate) / 4;
        }
        CHECK.same("estimate(0)", y.estimate(0), estimate);
        double sum = estimate - 1 + 23.0 * (9999 - estimate);
        CHECK.same("deviation(0)", y.deviation(0), sum / 24.0);
    }
}
