/** The boundary cases of section 5 and of promises 27 to 34: the forecasts. */
public final class ForecastEdgeTest {
    private static final Check CHECK = new Check("ForecastEdgeTest");
    // One core without any heat that does 1 in a tick; another domain of the same kind.
    private static final String SLOW = "system 0;domain 1 99999 0 1 0 0 0 min;level 1 1;";
    private static final String TWO = SLOW + "domain 1 99999 0 1 0 0 0 min;level 1 1;";
    // From 100 the levels lead to 150, 200 and 300.
    private static final String WARM = "system 100;domain 1 300 100 500 0 4 9 max;level 10 50;level 20 100;"
            + "level 30 200;";

    public static void main(String[] args) {
        domainsThatDoNotExist();
        willBeDoneInEachStage();
        willBeDoneInTheLastTick();
        allOverAtOnce();
        allOverInTheLastTick();
        willBeLateAtTheDeadline();
        willBeLateWhenTheForecastEnds();
        setOfAllJobs();
        countsAtTheirEnds();
        peakWithThePresentTemperature();
        energyOfAllDomains();
        nextThrottleAtItsEnds();
        nextThrottleOfThisDomainFromNow();
        bestPolicyOfEquals();
        bestPolicyOfAllDomains();
        bestPolicyAtTheDeadline();
        bestPolicyWhenTheForecastEnds();
        coolLimitAtItsEnds();
        coolLimitUntilAllJobsAreOver();
        coolLimitWhenTheForecastEnds();
        coolLimitOfThisDomainAlone();
        forecastOnACopy();
        CHECK.end();
    }

    private static void domainsThatDoNotExist() {
        CHECK.about("promises 30 to 34: a domain that does not exist");
        for (String text : new String[] {SLOW, TWO}) {
            ThermalCoreScheduler x = Check.loaded(text);
            int domains = text.equals(SLOW) ? 1 : 2;
            for (int domain : new int[] {-1, domains, 4, Integer.MIN_VALUE, Integer.MAX_VALUE}) {
                CHECK.argument("peak(" + domain + ", 1)", () -> x.peak(domain, 1));
                CHECK.argument("nextThrottle(" + domain + ")", () -> x.nextThrottle(domain));
                CHECK.argument("bestPolicy(" + domain + ")", () -> x.bestPolicy(domain));
                CHECK.argument("coolLimit(" + domain + ")", () -> x.coolLimit(domain));
            }
            CHECK.same("peak of the last", x.peak(domains - 1, 1), 0);
            CHECK.same("nextThrottle of the last", x.nextThrottle(domains - 1), -2);
            CHECK.same("bestPolicy of the last", x.bestPolicy(domains - 1), 0);
            CHECK.same("coolLimit of the last", x.coolLimit(domains - 1), 0);
        }
    }

    private static void willBeDoneInEachStage() {
        ThermalCoreScheduler x = Check.loaded(SLOW);
        x.addJob(0, 0, 0, 0, 1, 1);
        x.addJob(0, 0, 0, 0, 5, 2);
        x.addJob(0, 0, 0, 0, 5, 3);
        x.addJob(0, 0, 20, 30, 5, 3);
        x.tick(2);
        CHECK.about("promise 27: the clock at that time, also if it is done already");
        CHECK.same("willBeDone of a done job", x.willBeDone(0), 1);
        CHECK.same("willBeDone of a running job", x.willBeDone(1), 6);
        CHECK.same("willBeDone of a ready job", x.willBeDone(2), 11);
        CHECK.same("willBeDone of a waiting job", x.willBeDone(3), 55);
        CHECK.about("promise 27: -2 if it is cancelled");
        for (int job = 1; job < 4; job++) {
            x.cancelJob(job);
            CHECK.same("willBeDone(" + job + ")", x.willBeDone(job), -2);
        }
        CHECK.same("willBeDone of the done job", x.willBeDone(0), 1);
        CHECK.about("promise 27: also if it was done more than 1000 ticks ago");
        for (int i = 0; i < 3; i++) {
            x.tick(500);
        }
        CHECK.same("willBeDone of the done job", x.willBeDone(0), 1);
    }

    private static void willBeDoneInTheLastTick() {
        CHECK.about("section 5: at most 1000 ticks");
        for (int clock : new int[] {0, 1, 500}) {
            ThermalCoreScheduler x = Check.loaded(SLOW);
            if (clock > 0) {
                x.tick(clock);
            }
            x.addJob(0, 0, 0, 0, 999, 1);
            x.addJob(0, 0, 0, 0, 1, 2);
            x.addJob(0, 0, 0, 0, 1, 3);
            CHECK.same("willBeDone in the 999th tick", x.willBeDone(0), clock + 999);
            CHECK.same("willBeDone in the 1000th tick", x.willBeDone(1), clock + 1000);
            CHECK.about("promise 27: -2 if it will not be done in the forecast");
            CHECK.same("willBeDone in the 1001st tick", x.willBeDone(2), -2);
            x.tick(1);
            CHECK.same("willBeDone a tick later", x.willBeDone(2), clock + 1001);
        }
        CHECK.about("promise 27: -2 of a job that halts for ever");
        ThermalCoreScheduler y = Check.loaded("system 9;domain 1 0 0 1 0 0 0 min;level 1 1;");
        y.addJob(0, 0, 0, 0, 1, 1);
        CHECK.same("willBeDone(0)", y.willBeDone(0), -2);
    }

    private static void allOverAtOnce() {
        CHECK.about("promise 28: the present clock if they are over");
        ThermalCoreScheduler x = Check.loaded(TWO);
        CHECK.same("allOver() without jobs", x.allOver(), 0);
        x.tick(3);
        CHECK.same("allOver() without jobs", x.allOver(), 3);
        x.addJob(0, 0, 0, 0, 1, 1);
        CHECK.same("allOver() of a job", x.allOver(), 4);
        x.tick(1);
        CHECK.same("allOver() of a done job", x.allOver(), 4);
        x.tick(2);
        CHECK.same("allOver() of a job that was done long ago", x.allOver(), 6);
        x.addJob(0, 0, 5, 5, 7, 1);
        x.addJob(1, 0, 5, 7, 7, 1);
        CHECK.same("allOver() of the later of two", x.allOver(), 6 + 12 + 7);
        x.cancelJob(2);
        CHECK.same("allOver() of a cancelled and a waiting job", x.allOver(), 6 + 10 + 7);
        x.cancelJob(1);
        CHECK.same("allOver() of done and cancelled jobs", x.allOver(), 6);
    }

    private static void allOverInTheLastTick() {
        CHECK.about("promise 28: -2 if they will not be in the forecast");
        ThermalCoreScheduler x = Check.loaded(TWO);
        x.tick(2);
        x.addJob(0, 0, 0, 0, 1000, 1);
        CHECK.same("allOver() in the 1000th tick", x.allOver(), 1002);
        x.addJob(1, 0, 999, 1, 1, 1);
        CHECK.same("allOver() in the 1001st tick", x.allOver(), -2);
        x.tick(1);
        CHECK.same("allOver() a tick later", x.allOver(), 1003);
    }

    private static void willBeLateAtTheDeadline() {
        CHECK.about("promise 29: late, or not done; cancelled jobs do not count");
        ThermalCoreScheduler x = Check.loaded(TWO);
        CHECK.same("willBeLate() without jobs", x.willBeLate(), 0);
        x.addJob(0, 0, 0, 0, 5, 5);
        CHECK.same("willBeLate() at the deadline", x.willBeLate(), 0);
        x.addJob(1, 0, 0, 0, 6, 5);
        CHECK.same("willBeLate() a tick behind it", x.willBeLate(), 2);
        x.addJob(1, 0, 0, 0, 5, 10);
        CHECK.same("willBeLate() of one that must wait", x.willBeLate(), 6);
        x.cancelJob(1);
        CHECK.same("willBeLate() of a cancelled job", x.willBeLate(), 0);
        x.undo();
        x.tick(20);
        CHECK.same("willBeLate() of jobs that were late", x.willBeLate(), 6);
        CHECK.same("lateJobs()", x.lateJobs(), 6);
    }

    private static void willBeLateWhenTheForecastEnds() {
        CHECK.about("promise 29: .. when the forecast ends");
        ThermalCoreScheduler x = Check.loaded(SLOW);
        x.addJob(0, 0, 0, 0, 1000, 9999);
        CHECK.same("willBeLate() of one done in the 1000th tick", x.willBeLate(), 0);
        x.addJob(0, 0, 0, 0, 1, 9999);
        CHECK.same("willBeLate() of one done in the 1001st tick", x.willBeLate(), 2);
        x.tick(1);
        CHECK.same("willBeLate() a tick later", x.willBeLate(), 0);
        x.addJob(0, 0, 999, 1, 1, 9999);
        CHECK.same("willBeLate() of one that begins after it", x.willBeLate(), 4);
    }

    private static void setOfAllJobs() {
        CHECK.about("section 6: bit k stands for job k");
        ThermalCoreScheduler x = Check.loaded(SLOW);
        for (int job = 0; job < 24; job++) {
            x.addJob(0, 0, 999, 999, 1, 1);
            CHECK.same("willBeLate() of " + (job + 1) + " open jobs", x.willBeLate(), (2 << job) - 1);
        }
        x.cancelJob(0);
        x.cancelJob(23);
        CHECK.same("willBeLate() without the first and the last", x.willBeLate(), (1 << 23) - 2);
    }

    private static void countsAtTheirEnds() {
        CHECK.about("promises 30 and 31: a count of 1 to 500");
        ThermalCoreScheduler x = Check.loaded("system 0;domain 1 99999 100 1 2 0 0 min;level 1 1;"
                + "domain 1 99999 100 1 1 0 0 min;level 1 1;");
        for (int count : new int[] {0, -1, 501, Integer.MIN_VALUE, Integer.MAX_VALUE}) {
            CHECK.argument("peak(0, " + count + ")", () -> x.peak(0, count));
            CHECK.argument("energyIn(" + count + ")", () -> x.energyIn(count));
        }
        CHECK.same("peak(0, 1)", x.peak(0, 1), 2);
        CHECK.same("peak(1, 1)", x.peak(1, 1), 1);
        CHECK.same("peak(1, 500)", x.peak(1, 500), 500);
        CHECK.same("energyIn(1)", x.energyIn(1), 3);
        CHECK.same("energyIn(500)", x.energyIn(500), 1500);
    }

    private static void peakWithThePresentTemperature() {
        CHECK.about("promise 30: the present one included");
        ThermalCoreScheduler x = Check.loaded("system 1000;domain 1 99999 100 100 0 0 0 min;level 1 200;"
                + "domain 1 99999 0 1 0 0 0 min;level 1 1;");
        x.setAmbient(0);
        CHECK.same("peak(0, 1) of one that cools", x.peak(0, 1), 1000);
        CHECK.same("peak(0, 500) of one that cools", x.peak(0, 500), 1000);
        x.addJob(0, 0, 1, 0, 1, 9);
        // 1000, 900, 900 + 200 - 90, and down again
        CHECK.same("peak(0, 1)", x.peak(0, 1), 1000);
        CHECK.same("peak(0, 2)", x.peak(0, 2), 1010);
        CHECK.same("peak(0, 500)", x.peak(0, 500), 1010);
        x.tick(2);
        CHECK.same("peak(0, 500) at the peak", x.peak(0, 500), 1010);
        x.tick(1);
        CHECK.same("peak(0, 500) behind it", x.peak(0, 500), 909);
        CHECK.about("promise 30: of this domain");
        CHECK.same("peak(1, 1)", x.peak(1, 1), 999);
    }

    private static void energyOfAllDomains() {
        CHECK.about("promise 31: all domains together, in the next ticks alone");
        ThermalCoreScheduler x = Check.loaded("system 0;domain 1 99999 0 1 1 0 0 min;level 1 10;"
                + "domain 1 99999 0 1 2 0 0 min;level 1 20;domain 1 99999 0 1 3 0 0 min;level 1 30;"
                + "domain 1 99999 0 1 4 0 0 min;level 1 40;");
        x.tick(9);
        CHECK.same("energyIn(1)", x.energyIn(1), 10);
        for (int domain = 0; domain < 4; domain++) {
            x.addJob(domain, 0, domain, 0, 1, 9);
            CHECK.same("energyIn(4)", x.energyIn(4), 40 + 9 * (domain + 1) * (domain + 2) / 2);
            CHECK.same("energyIn(" + (domain + 1) + ")", x.energyIn(domain + 1),
                    10 * (domain + 1) + 9 * (domain + 1) * (domain + 2) / 2);
        }
        CHECK.about("promise 31: the greatest energy");
        ThermalCoreScheduler y = Check.loaded("system 0;"
                + "domain 4 99999 0 1 99 0 0 min;level 1 999;".repeat(4));
        for (int job = 0; job < 16; job++) {
            y.addJob(job / 4, 0, 0, 0, 500, 9);
        }
        CHECK.same("energyIn(500)", y.energyIn(500), 16 * 999 * 500);
    }

    private static void nextThrottleAtItsEnds() {
        CHECK.about("promise 32: 1 for the next tick, up to 1000; -2 if there is none");
        int[][] delayAndDue = {{0, 1}, {1, 2}, {998, 999}, {999, 1000}};
        for (int[] row : delayAndDue) {
            ThermalCoreScheduler x = Check.loaded("system 0;domain 1 0 100 1 0 0 0 min;level 1 1;");
            x.addJob(0, 0, row[0], 0, 1, 1);
            CHECK.same("nextThrottle(0) after " + row[0], x.nextThrottle(0), row[1]);
        }
        ThermalCoreScheduler y = Check.loaded("system 0;domain 1 0 100 1 0 0 0 min;level 1 1;");
        CHECK.same("nextThrottle(0) without jobs", y.nextThrottle(0), -2);
        y.addJob(0, 0, 999, 1, 1, 1);
        CHECK.same("nextThrottle(0) in the 1001st tick", y.nextThrottle(0), -2);
        y.tick(1);
        CHECK.same("nextThrottle(0) a tick later", y.nextThrottle(0), 1000);
        CHECK.about("promise 32: throttled or halts");
        ThermalCoreScheduler z = Check.loaded(WARM);
        z.addJob(0, 0, 0, 0, 99, 99);
        CHECK.same("nextThrottle(0) at the limit, then above", z.nextThrottle(0), 2);
        z.setLimit(0, 299);
        CHECK.same("nextThrottle(0) of lowering", z.nextThrottle(0), 1);
        z.setPolicy(0, 1);
        z.setLimit(0, 150);
        CHECK.same("nextThrottle(0) of a halt in the second tick", z.nextThrottle(0), 2);
        z.setLimit(0, 149);
        CHECK.same("nextThrottle(0) of a halt", z.nextThrottle(0), 1);
    }

    private static void nextThrottleOfThisDomainFromNow() {
        CHECK.about("promise 32: the next tick of this domain, not an earlier one or one of another");
        ThermalCoreScheduler x = Check.loaded("system 0;domain 1 0 100 1 0 0 0 min;level 1 1;"
                + "domain 1 99999 0 1 0 0 0 min;level 1 1;");
        x.addJob(0, 0, 0, 0, 1, 1);
        x.addJob(1, 0, 0, 0, 1, 1);
        CHECK.same("nextThrottle(1)", x.nextThrottle(1), -2);
        x.tick(3);
        CHECK.same("halts", x.domainValue(0, 2), 3);
        CHECK.same("nextThrottle(0)", x.nextThrottle(0), 1);
        x.setLimit(0, 99999);
        CHECK.same("nextThrottle(0) without any limit", x.nextThrottle(0), -2);
    }

    private static void bestPolicyOfEquals() {
        CHECK.about("promise 33: of several the one with the lowest number");
        ThermalCoreScheduler x = Check.loaded(SLOW);
        CHECK.same("bestPolicy(0) without jobs", x.bestPolicy(0), 0);
        x.addJob(0, 0, 0, 0, 5, 5);
        CHECK.same("bestPolicy(0) of one level", x.bestPolicy(0), 0);
        CHECK.about("promise 33: the least energy; min and demand alike");
        ThermalCoreScheduler y = Check.loaded("system 0;domain 1 99999 0 1 0 4 0 max;level 10 10;level 20 30;");
        y.addJob(0, 0, 0, 0, 20, 99);
        CHECK.same("bestPolicy(0)", y.bestPolicy(0), 1);
        CHECK.about("promise 33: equal energy of max, min, demand and race");
        ThermalCoreScheduler z = Check.loaded("system 0;domain 1 99999 0 1 0 4 0 race;level 10 10;level 20 20;");
        z.addJob(0, 0, 0, 0, 20, 99);
        CHECK.same("bestPolicy(0)", z.bestPolicy(0), 0);
        z.addJob(0, 0, 0, 0, 10, 199);
        CHECK.same("bestPolicy(0) with less energy at the low level", z.bestPolicy(0), 1);
        CHECK.same("the policy itself", z.domainValue(0, 5), 3);
    }

    private static void bestPolicyOfAllDomains() {
        CHECK.about("promise 33: with which all domains together need the least energy");
        String own = "system 0;domain 1 99999 0 1 0 4 0 max;level 10 10;level 20 30;";
        // The low level saves 10 in two ticks, the other domain idles one tick longer for it.
        for (int idle = 9; idle <= 11; idle++) {
            ThermalCoreScheduler x = Check.loaded(own + "domain 1 99999 0 1 " + idle + " 0 0 min;level 1 1;");
            x.addJob(0, 0, 0, 0, 20, 99);
            CHECK.same("bestPolicy(0) with the idle power " + idle, x.bestPolicy(0), idle < 10 ? 1 : 0);
            CHECK.same("bestPolicy(1) with the idle power " + idle, x.bestPolicy(1), 0);
        }
        CHECK.about("promise 33: the energy from now on, whatever was needed before");
        ThermalCoreScheduler y = Check.loaded(own);
        y.tick(500);
        y.addJob(0, 0, 0, 0, 20, 99);
        CHECK.same("bestPolicy(0)", y.bestPolicy(0), 1);
    }

    private static void bestPolicyAtTheDeadline() {
        CHECK.about("promise 33: the fewest jobs in willBeLate() come before the energy");
        ThermalCoreScheduler x = Check.loaded("system 0;domain 1 99999 0 1 0 4 0 max;level 10 10;level 20 30;");
        x.addJob(0, 0, 0, 0, 40, 4);
        CHECK.same("bestPolicy(0) with time for the low level", x.bestPolicy(0), 1);
        x.cancelJob(0);
        x.addJob(0, 0, 0, 0, 40, 3);
        // In 3 ticks: demand asks for 14, that is 20, then for 20 in 2, that is 10 and 10.
        CHECK.same("bestPolicy(0) a tick shorter", x.bestPolicy(0), 2);
        x.cancelJob(1);
        x.addJob(0, 0, 0, 0, 40, 2);
        CHECK.same("bestPolicy(0) two ticks shorter, max, demand and race alike", x.bestPolicy(0), 0);
        x.cancelJob(2);
        x.addJob(0, 0, 0, 0, 40, 1);
        CHECK.same("bestPolicy(0) late in any case", x.bestPolicy(0), 1);
    }

    private static void bestPolicyWhenTheForecastEnds() {
        CHECK.about("promise 33: until all jobs are over or the forecast ends");
        ThermalCoreScheduler x = Check.loaded("system 0;domain 1 99999 0 1 0 4 0 max;level 1 10;level 2 30;");
        x.addJob(0, 0, 0, 0, 1000, 9999);
        CHECK.same("bestPolicy(0): min is done in the 1000th tick", x.bestPolicy(0), 1);
        x.cancelJob(0);
        x.addJob(0, 0, 0, 0, 1001, 9999);
        CHECK.same("bestPolicy(0): min and demand are not", x.bestPolicy(0), 0);
        x.cancelJob(1);
        x.addJob(0, 0, 0, 0, 2001, 9999);
        CHECK.same("bestPolicy(0): nothing is, min needs the least", x.bestPolicy(0), 1);
        x.cancelJob(2);
        x.addJob(0, 0, 999, 1, 1, 9999);
        CHECK.same("bestPolicy(0): nothing happens", x.bestPolicy(0), 0);
    }

    private static void coolLimitAtItsEnds() {
        CHECK.about("promise 34: the least limit, 0 to 99999; -2 if there is none");
        ThermalCoreScheduler x = Check.loaded(WARM);
        CHECK.same("coolLimit(0) without jobs", x.coolLimit(0), 0);
        x.addJob(0, 0, 0, 0, 30, 99);
        CHECK.same("coolLimit(0) of one tick", x.coolLimit(0), 300);
        ThermalCoreScheduler cold = Check.loaded("system 0;domain 1 0 0 1 0 0 0 min;level 1 999;");
        cold.addJob(0, 0, 0, 0, 50, 1);
        CHECK.same("coolLimit(0) without heat", cold.coolLimit(0), 0);
        CHECK.about("promise 34: the last limit and the first beyond");
        // What is above the ambient temperature does not depend on it, so the ambient one moves the limit.
        int rise = riseOfTenTicks();
        CHECK.same("the rise is below the greatest limit", rise > 90000 && rise < 99999, true);
        CHECK.same("coolLimit(0) of the rise alone", hotFrom(0).coolLimit(0), rise);
        CHECK.same("coolLimit(0) of 99999", hotFrom(99999 - rise).coolLimit(0), 99999);
        CHECK.same("coolLimit(0) of 100000", hotFrom(100000 - rise).coolLimit(0), -2);
    }

    private static ThermalCoreScheduler hotFrom(int ambient) {
        ThermalCoreScheduler x = Check.loaded("system " + ambient + ";domain 1 0 999 1 0 0 0 min;level 1 994;");
        x.addJob(0, 0, 0, 0, 10, 1);
        return x;
    }

    private static int riseOfTenTicks() {
        int rise = 0;
        for (int i = 0; i < 10; i++) {
            rise += 999 * 994 / 100 - rise / 1000;
        }
        return rise;
    }

    private static void coolLimitUntilAllJobsAreOver() {
        CHECK.about("promise 34: no tick until all jobs are over; idle ticks are none");
        ThermalCoreScheduler x = Check.loaded("system 0;domain 1 0 100 999 90 0 9 min;level 10 5;"
                + "domain 1 0 0 1 0 0 9 min;level 1 5;");
        x.addJob(0, 0, 0, 0, 10, 99);
        CHECK.same("coolLimit(0) of a tick", x.coolLimit(0), 5);
        x.addJob(1, 0, 0, 0, 50, 99);
        x.setLimit(1, 99999);
        CHECK.same("coolLimit(0) when hot idle ticks follow", x.coolLimit(0), 5);
        x.addJob(0, 0, 9, 0, 10, 99);
        // After idling at 90 for some ticks the temperature is 90, falls by 89 and rises by 5.
        CHECK.same("coolLimit(0) of a job after idling", x.coolLimit(0), 90 + 5 - 89);
        CHECK.about("promise 34: the limit that is found lets everything pass, the one below it does not");
        x.setLimit(0, 6);
        CHECK.same("nextThrottle(0)", x.nextThrottle(0), -2);
        x.setLimit(0, 5);
        CHECK.same("nextThrottle(0)", x.nextThrottle(0), 10);
        CHECK.same("coolLimit(0) whatever the limit is", x.coolLimit(0), 6);
    }

    private static void coolLimitWhenTheForecastEnds() {
        CHECK.about("promise 34: the forecast ends after 1000 ticks");
        int[][] delaySlackAndDue = {{998, 0, 18}, {999, 0, 9}, {999, 1, 0}};
        for (int[] row : delaySlackAndDue) {
            ThermalCoreScheduler x = Check.loaded("system 0;domain 1 0 100 1 0 0 0 min;level 1 9;");
            x.addJob(0, 0, row[0], row[1], 5, 1);
            CHECK.same("coolLimit(0) of a job at " + (row[0] + row[1]), x.coolLimit(0), row[2]);
        }
        CHECK.about("promise 34: a job that is not over when the forecast ends");
        ThermalCoreScheduler y = Check.loaded("system 0;domain 1 0 100 1 0 0 0 min;level 1 1;");
        y.addJob(0, 0, 0, 0, 9999, 1);
        int temperature = 0;
        for (int i = 0; i < 1000; i++) {
            temperature += 1 - temperature / 1000;
        }
        CHECK.same("coolLimit(0)", y.coolLimit(0), temperature);
    }

    private static void coolLimitOfThisDomainAlone() {
        CHECK.about("promise 34: a throttling of this domain, not of another");
        ThermalCoreScheduler x = Check.loaded(WARM + "domain 1 0 100 1 0 0 0 min;level 1 1;");
        x.addJob(0, 0, 0, 0, 60, 99);
        x.addJob(1, 0, 0, 0, 1, 9);
        CHECK.same("the other domain halts", x.nextThrottle(1), 1);
        CHECK.same("coolLimit(0)", x.coolLimit(0), 400);
        CHECK.same("coolLimit(1)", x.coolLimit(1), 101);
    }

    private static void forecastOnACopy() {
        CHECK.about("section 5: a forecast lets ticks pass on a copy");
        ThermalCoreScheduler x = Check.loaded(WARM + "domain 2 400 100 90 5 0 2 demand;level 3 50;level 9 60;");
        x.addJob(0, 0, 1, 1, 400, 12);
        x.addJob(1, 1, 1, 1, 100, 30);
        x.addJob(1, 1, 9, 9, 100, 30);
        x.tick(4);
        String before = Picture.of(x);
        for (int round = 0; round < 2; round++) {
            x.willBeDone(1);
            CHECK.same("the picture after willBeDone", Picture.of(x), before);
            x.allOver();
            CHECK.same("the picture after allOver", Picture.of(x), before);
            x.willBeLate();
            CHECK.same("the picture after willBeLate", Picture.of(x), before);
            x.peak(0, 500);
            CHECK.same("the picture after peak", Picture.of(x), before);
            x.energyIn(500);
            CHECK.same("the picture after energyIn", Picture.of(x), before);
            x.nextThrottle(1);
            CHECK.same("the picture after nextThrottle", Picture.of(x), before);
            x.bestPolicy(1);
            CHECK.same("the picture after bestPolicy", Picture.of(x), before);
            x.coolLimit(1);
            CHECK.same("the picture after coolLimit", Picture.of(x), before);
        }
        CHECK.about("section 6: forecasts are no actions");
        CHECK.same("undo()", x.undo(), 3);
    }
}
