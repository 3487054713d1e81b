/** Promises 27 to 34: the forecasts. */
public final class ForecastTest {
    private static final Check CHECK = new Check("ForecastTest");
    // One slow core without any heat, and one whose heating equals its power.
    private static final String SLOW = "system 0;domain 1 99999 0 1 0 0 0 min;level 1 1;";
    private static final String WARM = "system 100;domain 1 300 100 500 0 0 9 max;level 10 50;level 20 100;"
            + "level 30 200;";

    public static void main(String[] args) {
        willBeDone();
        allOver();
        willBeLate();
        peak();
        energyIn();
        nextThrottle();
        bestPolicy();
        coolLimit();
        coolLimitAtItsEnd();
        forecastsChangeNothing();
        CHECK.end();
    }

    private static void willBeDone() {
        ThermalCoreScheduler x = Check.loaded(SLOW);
        x.tick(5);
        x.addJob(0, 0, 0, 0, 3, 50);
        x.addJob(0, 0, 0, 0, 996, 51);
        x.addJob(0, 0, 0, 0, 1, 52);
        x.addJob(0, 0, 0, 0, 1, 53);
        CHECK.same("willBeDone(0)", x.willBeDone(0), 8);
        CHECK.same("willBeDone(1)", x.willBeDone(1), 1004);
        CHECK.same("willBeDone in the 1000th tick", x.willBeDone(2), 1005);
        CHECK.same("willBeDone in the 1001st tick", x.willBeDone(3), -2);
        x.tick(3);
        CHECK.same("willBeDone of a done job", x.willBeDone(0), 8);
        CHECK.same("willBeDone(3) three ticks later", x.willBeDone(3), 1006);
        x.cancelJob(1);
        CHECK.same("willBeDone of a cancelled job", x.willBeDone(1), -2);
        CHECK.same("willBeDone of the next one", x.willBeDone(2), 9);
        CHECK.same("willBeDone of the last one", x.willBeDone(3), 10);
    }

    private static void allOver() {
        ThermalCoreScheduler x = Check.loaded(SLOW);
        CHECK.same("allOver without jobs", x.allOver(), 0);
        x.tick(7);
        CHECK.same("allOver without jobs, later", x.allOver(), 7);
        x.addJob(0, 0, 0, 0, 1000, 50);
        CHECK.same("allOver in the 1000th tick", x.allOver(), 1007);
        x.addJob(0, 0, 0, 0, 1, 50);
        CHECK.same("allOver in the 1001st tick", x.allOver(), -2);
        x.cancelJob(0);
        CHECK.same("allOver after cancelling", x.allOver(), 8);
        x.cancelJob(1);
        CHECK.same("allOver when all are cancelled", x.allOver(), 7);
    }

    private static void willBeLate() {
        ThermalCoreScheduler x = Check.loaded(SLOW);
        CHECK.same("willBeLate without jobs", x.willBeLate(), 0);
        x.addJob(0, 0, 0, 0, 3, 2);
        x.tick(3);
        CHECK.same("a job that is late already", x.willBeLate(), 1);
        x.addJob(0, 0, 0, 0, 5, 5);
        CHECK.same("a job that will be in time", x.willBeLate(), 1);
        x.addJob(0, 0, 0, 0, 5, 9);
        CHECK.same("a job that will be a tick late", x.willBeLate(), 5);
        x.addJob(0, 0, 0, 0, 991, 9999);
        CHECK.same("a job that will not be done, though there is time", x.willBeLate(), 13);
        x.cancelJob(2);
        CHECK.same("a cancelled job does not count", x.willBeLate(), 1);
        x.cancelJob(3);
        CHECK.same("nor does another", x.willBeLate(), 1);
    }

    private static void peak() {
        ThermalCoreScheduler x = Check.loaded("system 100;domain 1 9999 100 500 0 0 9 max;level 10 200;"
                + "domain 1 9999 100 500 3 0 9 max;level 10 200;");
        x.addJob(0, 0, 2, 0, 20, 99);
        CHECK.same("peak before the job", x.peak(0, 2), 100);
        CHECK.same("peak in its first tick", x.peak(0, 3), 300);
        CHECK.same("peak in its second", x.peak(0, 4), 400);
        CHECK.same("peak long after it", x.peak(0, 500), 400);
        CHECK.same("peak of the other domain", x.peak(1, 2), 105);
        x.tick(4);
        CHECK.same("the present temperature counts", x.peak(0, 1), 400);
        x.tick(1);
        CHECK.same("and falls", x.peak(0, 500), 250);
    }

    private static void energyIn() {
        ThermalCoreScheduler x = Check.loaded("system 100;domain 2 9999 0 500 4 0 9 max;level 10 200;"
                + "domain 1 9999 0 500 3 0 9 max;level 10 7;");
        CHECK.same("energyIn(1) of idling", x.energyIn(1), 11);
        CHECK.same("energyIn(500) of idling", x.energyIn(500), 5500);
        x.tick(10);
        x.addJob(0, 0, 1, 0, 15, 99);
        x.addJob(1, 0, 0, 0, 10, 99);
        CHECK.same("energyIn(1)", x.energyIn(1), 8 + 7);
        CHECK.same("energyIn(2)", x.energyIn(2), 15 + 204 + 3);
        CHECK.same("energyIn(4)", x.energyIn(4), 15 + 207 + 207 + 11);
        CHECK.same("the energy itself", x.energy(0) + x.energy(1), 110);
    }

    private static void nextThrottle() {
        ThermalCoreScheduler x = Check.loaded(WARM);
        CHECK.same("nextThrottle without jobs", x.nextThrottle(0), -2);
        x.addJob(0, 0, 0, 0, 1000, 9999);
        CHECK.same("nextThrottle", x.nextThrottle(0), 2);
        x.tick(1);
        CHECK.same("nextThrottle in the next tick", x.nextThrottle(0), 1);
        x.tick(3);
        CHECK.same("nextThrottle while it is throttled", x.nextThrottle(0), 1);
        x.setPolicy(0, 1);
        CHECK.same("nextThrottle at the lowest level", x.nextThrottle(0), -2);
        x.setLimit(0, 199);
        CHECK.same("a halt counts", x.nextThrottle(0), 1);

        ThermalCoreScheduler y = Check.loaded("system 0;domain 1 0 100 1 0 0 0 min;level 1 1;"
                + "domain 1 0 100 1 0 0 0 min;level 1 1;");
        y.addJob(0, 0, 999, 0, 1, 1);
        y.addJob(1, 0, 999, 1, 1, 1);
        CHECK.same("nextThrottle in the 1000th tick", y.nextThrottle(0), 1000);
        CHECK.same("nextThrottle in the 1001st tick", y.nextThrottle(1), -2);
    }

    private static void bestPolicy() {
        String one = "system 0;domain 1 99999 0 1 0 1 0 race;level 10 10;level 20 30;";
        ThermalCoreScheduler x = Check.loaded(one);
        CHECK.same("without jobs", x.bestPolicy(0), 0);
        x.addJob(0, 0, 0, 0, 20, 9999);
        CHECK.same("the least energy, min and demand alike", x.bestPolicy(0), 1);
        x.addJob(0, 0, 5, 0, 20, 1);
        CHECK.same("the fewest late jobs, then the least energy", x.bestPolicy(0), 2);
        x.cancelJob(0);
        CHECK.same("the lowest number of max, demand and race", x.bestPolicy(0), 0);
        CHECK.same("the policy itself stays", x.domainValue(0, 5), 3);
        x.cancelJob(1);
        x.addJob(0, 0, 0, 0, 9990, 9999);
        CHECK.same("done within the forecast by all", x.bestPolicy(0), 1);
        x.cancelJob(2);
        x.addJob(0, 0, 20, 0, 9990, 9999);
        CHECK.same("too late for min and demand", x.bestPolicy(0), 0);

        // The other domain idles until all is over, and that costs more than racing.
        ThermalCoreScheduler y = Check.loaded(one + "domain 4 99999 0 1 99 1 0 min;level 10 10;");
        y.addJob(0, 0, 0, 0, 20, 9999);
        CHECK.same("the energy of all domains", y.bestPolicy(0), 0);
        CHECK.same("the other domain has no choice", y.bestPolicy(1), 0);

        // Late already, late in any case: these count for all policies alike.
        ThermalCoreScheduler z = Check.loaded(one);
        z.addJob(0, 0, 0, 0, 100, 1);
        CHECK.same("late in any case", z.bestPolicy(0), 1);
        for (int job = 1; job < 24; job++) {
            z.addJob(0, 0, 0, 0, 30, 1);
        }
        CHECK.same("24 jobs are late in any case", z.bestPolicy(0), 1);
        z.tick(100);
        CHECK.same("all over", z.bestPolicy(0), 0);
    }

    private static void coolLimit() {
        ThermalCoreScheduler x = Check.loaded(WARM);
        CHECK.same("coolLimit without jobs", x.coolLimit(0), 0);
        x.addJob(0, 0, 0, 0, 30, 9999);
        CHECK.same("coolLimit of one tick", x.coolLimit(0), 300);
        x.cancelJob(0);
        x.addJob(0, 0, 0, 0, 60, 9999);
        CHECK.same("coolLimit of two ticks", x.coolLimit(0), 400);
        limitIsLeast(x, 400);
        x.setPolicy(0, 1);
        // 150, 175, 188, 194, 197, 199
        CHECK.same("coolLimit at the lowest level", x.coolLimit(0), 199);
        limitIsLeast(x, 199);
        x.setLimit(0, 0);
        CHECK.same("the present limit does not count", x.coolLimit(0), 199);
        x.tick(20);
        CHECK.same("it halts all the time", x.domainValue(0, 2), 20);
        CHECK.same("earlier halts do not count", x.coolLimit(0), 199);

        // Only ticks with a job count, however hot the idle ones are.
        ThermalCoreScheduler y = Check.loaded("system 0;domain 1 0 100 999 90 0 9 min;level 10 5;"
                + "domain 1 0 100 999 90 0 9 min;level 1 5;");
        y.addJob(0, 0, 0, 0, 10, 99);
        CHECK.same("coolLimit before idling", y.coolLimit(0), 5);
        y.addJob(1, 0, 0, 0, 90, 99);
        CHECK.same("coolLimit of a domain that idles longer", y.coolLimit(0), 5);

        ThermalCoreScheduler z = Check.loaded("system 0;domain 1 0 100 1 0 0 0 min;level 1 9;"
                + "domain 1 0 100 1 0 0 0 min;level 1 9;");
        z.addJob(0, 0, 999, 0, 1, 1);
        z.addJob(1, 0, 999, 1, 1, 1);
        CHECK.same("coolLimit in the 1000th tick", z.coolLimit(0), 9);
        CHECK.same("coolLimit in the 1001st tick", z.coolLimit(1), 0);
    }

    private static void limitIsLeast(ThermalCoreScheduler x, int limit) {
        x.setLimit(0, limit);
        CHECK.same("no throttling at " + limit, x.nextThrottle(0), -2);
        x.setLimit(0, limit - 1);
        CHECK.same("one below " + limit, x.nextThrottle(0) > 0, true);
        x.undo();
        x.undo();
    }

    private static void coolLimitAtItsEnd() {
        int rise = hotLimit(0);
        CHECK.same("the rise is near the end", rise > 90000 && rise <= 99999, true);
        CHECK.same("the greatest limit", hotLimit(99999 - rise), 99999);
        CHECK.same("above the greatest limit", hotLimit(100000 - rise), -2);
    }

    /** Temperatures over the ambient one do not depend on it, so it moves the limit. */
    private static int hotLimit(int ambient) {
        ThermalCoreScheduler x = Check.loaded("system " + ambient
                + ";domain 1 99999 999 10 0 0 0 max;level 1 980;");
        x.addJob(0, 0, 0, 0, 10, 9999);
        return x.coolLimit(0);
    }

    private static void forecastsChangeNothing() {
        ThermalCoreScheduler x = Check.loaded(WARM);
        x.addJob(0, 0, 1, 1, 400, 12);
        x.addJob(0, 1, 1, 1, 100, 30);
        x.tick(4);
        String before = Picture.of(x);
        x.willBeDone(1);
        x.allOver();
        x.willBeLate();
        x.peak(0, 500);
        x.energyIn(500);
        x.nextThrottle(0);
        x.bestPolicy(0);
        x.coolLimit(0);
        CHECK.same("the picture after forecasts", Picture.of(x), before);
        CHECK.same("forecasts are no actions", x.undo(), 2);
    }
}
