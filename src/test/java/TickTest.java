/** Promises 6 to 19: the actions, what a tick does, and what the domains answer. */
public final class TickTest {
    private static final Check CHECK = new Check("TickTest");

    public static void main(String[] args) {
        addedJobs();
        cancelledJobs();
        settings();
        releaseAndWakeUps();
        assignment();
        levelsOfPolicies();
        demand();
        credits();
        throttlingAndHalting();
        ambientAboveTemperature();
        heatOfLargeNumbers();
        throttleOrder();
        meanPower();
        tickCounts();
        CHECK.end();
    }

    private static void values(ThermalCoreScheduler x, String when, int domain, int... due) {
        for (int what = 0; what < due.length; what++) {
            CHECK.same("domainValue(" + domain + ", " + what + ") " + when, x.domainValue(domain, what), due[what]);
        }
    }

    private static void after(ThermalCoreScheduler x, String when, int level, int temperature, int energy, int credits,
            int throttlings, int halts, int remaining) {
        CHECK.same("level " + when, x.level(0), level);
        CHECK.same("temperature " + when, x.temperature(0), temperature);
        CHECK.same("energy " + when, x.energy(0), energy);
        CHECK.same("credits " + when, x.domainValue(0, 0), credits);
        CHECK.same("throttlings " + when, x.domainValue(0, 1), throttlings);
        CHECK.same("halts " + when, x.domainValue(0, 2), halts);
        CHECK.same("remaining work " + when, x.jobValue(0, 6), remaining);
    }

    private static void addedJobs() {
        ThermalCoreScheduler x = Check.loaded("system 5;domain 1 9 9 9 9 0 9 min;level 3 3;"
                + "domain 2 99999 0 1 0 0 0 min;level 10 1;");
        CHECK.same("addJob", x.addJob(1, 7, 0, 999, 9999, 9999), 0);
        x.tick(7);
        CHECK.same("addJob", x.addJob(0, 0, 999, 0, 1, 1), 1);
        int[][] due = {{1, 7, 0, 999, 9999, 9999, 9999, 0}, {0, 0, 1006, 0, 1, 1007, 1, 0}};
        for (int job = 0; job < 2; job++) {
            for (int what = 0; what < 8; what++) {
                CHECK.same("jobValue(" + job + ", " + what + ")", x.jobValue(job, what), due[job][what]);
            }
        }
        CHECK.same("jobCount", x.jobCount(), 2);
    }

    private static void cancelledJobs() {
        ThermalCoreScheduler x = Check.loaded("system 0;domain 2 99999 0 1 0 0 0 min;level 10 1;");
        x.addJob(0, 0, 50, 50, 77, 10);
        x.addJob(0, 0, 0, 0, 25, 10);
        x.addJob(0, 0, 0, 0, 10, 10);
        x.addJob(0, 0, 0, 0, 30, 11);
        x.tick(1);
        CHECK.same("job 1 runs", x.jobOn(0, 0), 1);
        CHECK.same("job 2 is done", x.jobValue(2, 7), 3);
        CHECK.same("job 3 is ready", x.jobValue(3, 7), 1);
        CHECK.same("cancel a waiting job", x.cancelJob(0), 77);
        CHECK.same("cancel a running job", x.cancelJob(1), 15);
        CHECK.same("cancel a done job", x.cancelJob(2), -2);
        CHECK.same("cancel a ready job", x.cancelJob(3), 30);
        CHECK.same("cancel a cancelled job", x.cancelJob(1), -2);
        CHECK.same("the core is free", x.jobOn(0, 0), -2);
        int[] remaining = {77, 15, 0, 30};
        int[] status = {4, 4, 3, 4};
        for (int job = 0; job < 4; job++) {
            CHECK.same("remaining work of " + job, x.jobValue(job, 6), remaining[job]);
            CHECK.same("status of " + job, x.jobValue(job, 7), status[job]);
        }
        CHECK.element("nothing is queued", () -> x.queued(0, 0));
        CHECK.same("tick after cancelling", x.tick(60), 0);
        CHECK.same("wake-ups", x.domainValue(0, 3), 1);
        CHECK.same("doneAt of a cancelled job", x.doneAt(1), -2);
        CHECK.same("undo the tick", x.undo(), 8);
        CHECK.same("undo the last cancelling, the refused ones being no actions", x.undo(), 7);
        CHECK.same("job 3 is ready again", x.jobValue(3, 7), 1);
        CHECK.same("undo the one before", x.undo(), 6);
        CHECK.same("job 1 is on its core again", x.jobOn(0, 0), 1);
    }

    private static void settings() {
        ThermalCoreScheduler x = Check.loaded("system 42;domain 2 500 0 1 0 0 7 race;level 10 1;"
                + "domain 4 600 0 1 0 3 8 demand;level 10 1;level 11 1;level 12 1;");
        CHECK.same("setPolicy", x.setPolicy(1, 0), 2);
        CHECK.same("setPolicy to the same", x.setPolicy(1, 0), 0);
        CHECK.same("setPolicy", x.setPolicy(1, 3), 0);
        CHECK.same("setLimit", x.setLimit(1, 99999), 600);
        CHECK.same("setLimit", x.setLimit(1, 0), 99999);
        CHECK.same("setAmbient", x.setAmbient(9999), 42);
        CHECK.same("setAmbient", x.setAmbient(0), 9999);
        CHECK.same("the temperature is not the ambient one any more", x.temperature(1), 42);
        values(x, "of domain 0", 0, 7, 0, 0, 0, 500, 3, 1, 2, 0);
        values(x, "of domain 1", 1, 8, 0, 0, 0, 0, 3, 3, 4, 2);
        CHECK.same("each setting was an action", x.undo(), 6);
    }

    private static void releaseAndWakeUps() {
        ThermalCoreScheduler x = Check.loaded("system 0;domain 2 99999 0 1 0 0 0 min;level 10 1;"
                + "domain 1 99999 0 1 0 0 0 min;level 10 1;");
        x.addJob(0, 0, 2, 3, 15, 50);
        x.addJob(0, 0, 4, 10, 10, 50);
        x.addJob(0, 0, 6, 20, 5, 50);
        x.addJob(0, 0, 7, 2, 5, 50);
        CHECK.same("nothing is done while slack is left", x.tick(5), 0);
        CHECK.same("job 0 waits", x.jobValue(0, 7), 0);
        CHECK.same("no wake-up", x.domainValue(0, 3), 0);
        CHECK.same("jobs 0 and 1 start together", x.tick(1), 1);
        CHECK.same("job 0 runs", x.jobValue(0, 7), 2);
        CHECK.same("job 0 is on core 0", x.jobOn(0, 0), 0);
        CHECK.same("job 1 is done", x.doneAt(1), 6);
        CHECK.same("job 2 waits", x.jobValue(2, 7), 0);
        CHECK.same("the domain is awake: job 2 starts with slack left", x.tick(1), 2);
        CHECK.same("job 2 is done", x.doneAt(2), 7);
        CHECK.same("one wake-up", x.domainValue(0, 3), 1);
        CHECK.same("nobody is awake: job 3 waits for its slack", x.tick(2), 0);
        CHECK.same("job 3 waits", x.jobValue(3, 7), 0);
        CHECK.same("job 3 starts in the tick at 9", x.tick(1), 1);
        CHECK.same("job 3 is done", x.doneAt(3), 10);
        CHECK.same("two wake-ups", x.domainValue(0, 3), 2);
        CHECK.same("none in the other domain", x.domainValue(1, 3), 0);

        // A released job with no core stays ready; when it gets one after all were free, that is a wake-up.
        x.addJob(1, 0, 0, 0, 10, 50);
        x.addJob(1, 0, 0, 900, 20, 60);
        x.addJob(1, 0, 1, 900, 10, 40);
        CHECK.same("one core, one job", x.tick(1), 1);
        CHECK.same("job 5 was released, too", x.jobValue(5, 7), 1);
        CHECK.same("job 6 was not", x.jobValue(6, 7), 0);
        x.tick(1);
        CHECK.same("job 5 runs", x.jobValue(5, 7), 2);
        CHECK.same("job 6 waits: nobody was awake", x.jobValue(6, 7), 0);
        CHECK.same("wake-ups", x.domainValue(1, 3), 2);
        x.tick(1);
        CHECK.same("job 6 became ready", x.jobValue(6, 7), 1);
        CHECK.same("wake-ups are counted once", x.domainValue(1, 3), 2);
    }

    private static void assignment() {
        ThermalCoreScheduler x = Check.loaded("system 0;domain 3 99999 0 1 0 0 0 min;level 1 1;");
        int[] times = {30, 20, 30, 10, 20};
        for (int time : times) {
            x.addJob(0, 0, 0, 0, 5, time);
        }
        int[] order = {3, 1, 4, 0, 2};
        for (int place = 0; place < 5; place++) {
            CHECK.same("queued(0, " + place + ")", x.queued(0, place), order[place]);
        }
        x.tick(1);
        CHECK.same("core 0", x.jobOn(0, 0), 3);
        CHECK.same("core 1", x.jobOn(0, 1), 1);
        CHECK.same("core 2", x.jobOn(0, 2), 4);
        CHECK.same("queued after it", x.queued(0, 0), 0);
        x.addJob(0, 0, 0, 0, 5, 1);
        x.tick(1);
        CHECK.same("a running job keeps its core", x.jobOn(0, 0), 3);
        x.cancelJob(1);
        x.tick(1);
        CHECK.same("the most urgent job gets the free core", x.jobOn(0, 1), 5);
    }

    private static void levelsOfPolicies() {
        ThermalCoreScheduler x = Check.loaded("system 0;domain 1 99999 0 1 0 4 0 max;level 5 1;level 10 2;"
                + "domain 1 99999 0 1 0 4 0 min;level 5 1;level 10 2;domain 1 99999 0 1 0 4 0 demand;level 5 1;"
                + "level 10 2;domain 1 99999 0 1 0 4 0 race;level 5 1;level 10 2;");
        int[] idle = {1, 0, 0, 0};
        int[] busy = {1, 0, 1, 1};
        for (int domain = 0; domain < 4; domain++) {
            CHECK.same("level before the first tick", x.level(domain), 0);
        }
        x.tick(1);
        for (int domain = 0; domain < 4; domain++) {
            CHECK.same("level of idle " + domain, x.level(domain), idle[domain]);
            x.addJob(domain, 0, 0, 0, 8, 1);
        }
        x.tick(1);
        for (int domain = 0; domain < 4; domain++) {
            CHECK.same("level of busy " + domain, x.level(domain), busy[domain]);
            CHECK.same("remaining in " + domain, x.jobValue(domain, 6), domain == 1 ? 3 : 0);
        }
        x.tick(5);
        for (int domain = 0; domain < 4; domain++) {
            CHECK.same("level of " + domain + " at the end", x.level(domain), idle[domain]);
        }
    }

    private static int demandedLevel(int... worksAndTimes) {
        ThermalCoreScheduler x = Check.loaded("system 0;domain 2 99999 0 1 0 4 0 demand;level 5 1;level 10 2;"
                + "level 20 3;");
        for (int i = 0; i < worksAndTimes.length; i += 2) {
            x.addJob(0, 0, 0, 0, worksAndTimes[i], worksAndTimes[i + 1]);
        }
        x.tick(1);
        return x.level(0);
    }

    private static void demand() {
        CHECK.same("demand of 20 in 4", demandedLevel(20, 4), 0);
        CHECK.same("demand of 21 in 4", demandedLevel(21, 4), 1);
        CHECK.same("demand of 40 in 4", demandedLevel(40, 4), 1);
        CHECK.same("demand of 41 in 4", demandedLevel(41, 4), 2);
        CHECK.same("demand of 80 in 4", demandedLevel(80, 4), 2);
        CHECK.same("demand of 99 in 4", demandedLevel(99, 4), 2);
        CHECK.same("the greater of two demands", demandedLevel(1, 4, 41, 4), 2);
        CHECK.same("the greater of two demands", demandedLevel(36, 4, 1, 5), 1);
        CHECK.same("a ready job demands nothing", demandedLevel(1, 4, 2, 4, 99, 5), 0);

        ThermalCoreScheduler x = Check.loaded("system 0;domain 1 99999 0 1 0 4 0 demand;level 1 1;level 5 1;"
                + "level 100 2;");
        x.addJob(0, 0, 3, 7, 12, 2);
        x.tick(11);
        // At the clock 10 the deadline 5 is over: the time left counts as 1, and 12 is above 5.
        CHECK.same("demand after the deadline", x.level(0), 2);
        CHECK.same("done late", x.lateJobs(), 1);
        x.addJob(0, 0, 0, 0, 12, 4);
        x.tick(1);
        CHECK.same("12 in 4 ticks", x.level(0), 1);
        x.tick(1);
        CHECK.same("7 in 3 ticks", x.level(0), 1);
        x.tick(1);
        CHECK.same("2 in 2 ticks", x.level(0), 0);
        x.tick(1);
        CHECK.same("done in time", x.lateJobs(), 1);
        CHECK.same("done at", x.doneAt(1), 15);
    }

    private static void credits() {
        ThermalCoreScheduler x = Check.loaded("system 0;domain 1 99999 0 1 3 1 2 max;level 1 10;level 2 20;"
                + "level 3 30;");
        x.addJob(0, 0, 0, 0, 100, 999);
        int[][] due = {{2, 30, 1, 97}, {2, 60, 0, 94}, {1, 80, 1, 92}, {2, 110, 0, 89}, {1, 130, 1, 87},
            {2, 160, 0, 84}};
        for (int i = 0; i < due.length; i++) {
            x.tick(1);
            after(x, "with credits, tick " + i, due[i][0], 0, due[i][1], due[i][2], 0, 0, due[i][3]);
        }
        x.setPolicy(0, 1);
        x.tick(1);
        after(x, "below the base level", 0, 0, 170, 1, 0, 0, 83);
        x.tick(3);
        after(x, "at the capacity", 0, 0, 200, 2, 0, 0, 80);
        x.setPolicy(0, 0);
        x.tick(2);
        x.cancelJob(0);
        CHECK.same("no credits", x.domainValue(0, 0), 0);
        x.tick(1);
        after(x, "idle at the highest level", 2, 0, 263, 1, 0, 0, 74);

        ThermalCoreScheduler y = Check.loaded("system 0;domain 1 99999 0 1 3 1 0 race;level 1 10;level 2 20;"
                + "level 3 30;");
        y.addJob(0, 0, 0, 0, 100, 999);
        y.tick(3);
        after(y, "without any capacity", 1, 0, 60, 0, 0, 0, 94);
    }

    private static void throttlingAndHalting() {
        ThermalCoreScheduler x = Check.loaded("system 100;domain 1 300 100 500 0 0 9 max;level 10 50;level 20 100;"
                + "level 30 200;");
        x.addJob(0, 0, 0, 0, 1000, 9999);
        x.tick(1);
        after(x, "at the limit", 2, 300, 200, 8, 0, 0, 970);
        x.tick(1);
        after(x, "lowered by one", 1, 300, 300, 7, 1, 0, 950);
        x.tick(1);
        after(x, "lowered again", 1, 300, 400, 6, 2, 0, 930);
        x.setLimit(0, 250);
        x.tick(1);
        after(x, "lowered by two", 0, 250, 450, 7, 3, 0, 920);
        x.setLimit(0, 150);
        x.tick(1);
        after(x, "lowered and halted", 0, 175, 450, 8, 4, 1, 920);
        CHECK.same("the job keeps its core", x.jobOn(0, 0), 0);
        CHECK.same("nothing is done in a halt", x.tick(1), 0);
        after(x, "halted again", 0, 138, 450, 9, 5, 2, 920);
        x.tick(1);
        after(x, "halted at full credits", 0, 119, 450, 9, 6, 3, 920);
        x.setPolicy(0, 1);
        x.tick(1);
        after(x, "halted without being lowered", 0, 110, 450, 9, 6, 4, 920);
        x.cancelJob(0);
        x.setLimit(0, 0);
        x.setPolicy(0, 0);
        x.tick(1);
        after(x, "idle above the limit", 2, 105, 450, 9, 6, 4, 920);

        // Two cores, one of them idle: a halt costs the idle power of both.
        ThermalCoreScheduler y = Check.loaded("system 100;domain 2 110 100 100 7 0 9 max;level 10 50;");
        y.addJob(0, 0, 0, 0, 1000, 9999);
        y.tick(1);
        after(y, "halted with two cores", 0, 114, 14, 9, 0, 1, 1000);
        y.setLimit(0, 171);
        y.tick(1);
        after(y, "one core works", 0, 170, 71, 9, 0, 1, 990);
    }

    private static void ambientAboveTemperature() {
        ThermalCoreScheduler x = Check.loaded("system 110;domain 1 0 100 500 3 0 9 max;level 10 50;");
        x.setAmbient(1001);
        x.tick(1);
        CHECK.same("both divisions truncate toward zero", x.temperature(0), 110 + 3 + 445);
        ThermalCoreScheduler y = Check.loaded("system 100;domain 1 0 150 500 1 0 9 max;level 10 50;");
        y.tick(1);
        CHECK.same("150 / 100", y.temperature(0), 101);
        y.tick(1);
        CHECK.same("150 / 100 and 1 / 2", y.temperature(0), 102);
        y.tick(1);
        CHECK.same("150 / 100 and 2 / 2", y.temperature(0), 102);
    }

    private static void heatOfLargeNumbers() {
        ThermalCoreScheduler x = Check.loaded("system 9999;domain 4 99999 999 1 99 4 99 max;level 999 999;");
        x.setAmbient(0);
        x.tick(500);
        // The temperature comes near 999 * 396 / 100 * 1000 and stays a number below it.
        int warm = x.temperature(0);
        x.tick(500);
        CHECK.same("it rises", x.temperature(0) > warm, true);
        CHECK.same("and stays below the balance", x.temperature(0) < 3956 * 1000, true);
        CHECK.same("energy", x.energy(0), 396 * 1000);
        ThermalCoreScheduler y = Check.loaded("system 0;domain 1 99999 999 999 0 0 0 max;level 1 999;");
        y.addJob(0, 0, 0, 0, 9999, 9999);
        y.tick(1);
        CHECK.same("temperature of one tick", y.temperature(0), 9980);
        y.tick(1);
        CHECK.same("temperature of two", y.temperature(0), 9980 + 9980 - 9970);
    }

    private static void throttleOrder() {
        ThermalCoreScheduler x = Check.loaded("system 100;domain 1 500 1 1 0 0 0 max;level 1 1;"
                + "domain 1 300 1 1 0 0 0 max;level 1 1;domain 1 500 1 1 0 0 0 max;level 1 1;"
                + "domain 1 50 100 1 9 0 0 max;level 1 1;");
        order(x, 3, 1, 0, 2);
        x.setLimit(0, 300);
        order(x, 3, 0, 1, 2);
        x.setLimit(3, 301);
        order(x, 0, 1, 3, 2);
        x.tick(1);
        // Domain 3 is idle and has become hotter by 9.
        order(x, 3, 0, 1, 2);
        x.setLimit(3, 309);
        order(x, 0, 1, 3, 2);
        CHECK.element("throttleOrder(4)", () -> x.throttleOrder(4));
        CHECK.element("throttleOrder(MAX)", () -> x.throttleOrder(Integer.MAX_VALUE));
        CHECK.argument("throttleOrder(-1)", () -> x.throttleOrder(-1));
    }

    private static void order(ThermalCoreScheduler x, int... due) {
        for (int place = 0; place < due.length; place++) {
            CHECK.same("throttleOrder(" + place + ")", x.throttleOrder(place), due[place]);
        }
    }

    private static void meanPower() {
        ThermalCoreScheduler x = Check.loaded("system 0;domain 1 99999 0 1 1 0 0 max;level 1 9;");
        CHECK.arithmetic("meanPower at the clock 0", () -> x.meanPower(0));
        CHECK.argument("meanPower of a wrong domain at the clock 0", () -> x.meanPower(1));
        x.addJob(0, 0, 0, 0, 1, 1);
        x.tick(3);
        CHECK.same("meanPower", x.meanPower(0), 11f / 3f);
        x.undo();
        CHECK.arithmetic("meanPower after undo", () -> x.meanPower(0));
    }

    private static void tickCounts() {
        ThermalCoreScheduler x = Check.loaded("system 0;domain 4 99999 0 1 0 0 0 min;level 10 1;"
                + "domain 1 99999 0 1 0 0 0 min;level 10 1;");
        for (int i = 0; i < 5; i++) {
            x.addJob(0, 0, 0, 0, 15, 99);
        }
        x.addJob(1, 0, 0, 0, 40, 99);
        CHECK.same("tick(1)", x.tick(1), 0);
        CHECK.same("tick(1)", x.tick(1), 4);
        CHECK.same("tick(500)", x.tick(500), 2);
        CHECK.same("clock", x.clock(), 502);
        CHECK.same("doneAt of the fifth", x.doneAt(4), 4);
        CHECK.same("doneAt in the other domain", x.doneAt(5), 4);
        CHECK.same("undo of 500 ticks", x.undo(), 8);
        CHECK.same("clock after it", x.clock(), 2);
        CHECK.same("doneAt after it", x.doneAt(4), -2);
    }
}
