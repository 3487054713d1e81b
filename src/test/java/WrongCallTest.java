import java.util.ArrayList;
import java.util.List;
import java.util.function.Function;

/**
 * Promises 6 to 41: without a system each method throws IllegalStateException, whatever its arguments are; with one,
 * each argument is taken at both ends of its range and refused beyond them; and nothing has changed after a refusal.
 */
public final class WrongCallTest {
    private static final Check CHECK = new Check("WrongCallTest");
    private static final int NO_END = Integer.MAX_VALUE;
    // Domain 0 has 3 cores and 2 levels, domain 1 has 1 core and 3 levels; jobs 0 and 1 are added.
    private static final String TEXT = "system 100;domain 3 1000 100 100 5 0 2 race;level 10 50;level 20 200;"
            + "domain 1 500 50 50 0 1 0 demand;level 5 10;level 10 40;level 20 100;";

    /** A method, and for each argument the two ends of its range. */
    private record Method(String name, Function<int[], Object> call, int... ends) {
    }

    private static ThermalCoreScheduler x;

    private static List<Method> methods() {
        List<Method> all = new ArrayList<>();
        all.add(new Method("addJob", a -> x.addJob(a[0], a[1], a[2], a[3], a[4], a[5]),
                0, 1, 0, 7, 0, 999, 0, 999, 1, 9999, 1, 9999));
        all.add(new Method("cancelJob", a -> x.cancelJob(a[0]), 0, 1));
        all.add(new Method("setPolicy", a -> x.setPolicy(a[0], a[1]), 0, 1, 0, 3));
        all.add(new Method("setLimit", a -> x.setLimit(a[0], a[1]), 0, 1, 0, 99999));
        all.add(new Method("setAmbient", a -> x.setAmbient(a[0]), 0, 9999));
        all.add(new Method("tick", a -> x.tick(a[0]), 1, 500));
        all.add(new Method("clock", a -> x.clock()));
        all.add(new Method("temperature", a -> x.temperature(a[0]), 0, 1));
        all.add(new Method("level", a -> x.level(a[0]), 0, 1));
        all.add(new Method("energy", a -> x.energy(a[0]), 0, 1));
        all.add(new Method("domainValue", a -> x.domainValue(a[0], a[1]), 0, 1, 0, 8));
        all.add(new Method("jobOn(0, ..)", a -> x.jobOn(0, a[0]), 0, 2));
        all.add(new Method("jobOn(1, ..)", a -> x.jobOn(1, a[0]), 0, 0));
        all.add(new Method("jobOn(.., 0)", a -> x.jobOn(a[0], 0), 0, 1));
        all.add(new Method("throttleOrder", a -> x.throttleOrder(a[0]), 0, NO_END));
        all.add(new Method("meanPower", a -> x.meanPower(a[0]), 0, 1));
        all.add(new Method("jobCount", a -> x.jobCount()));
        all.add(new Method("jobValue", a -> x.jobValue(a[0], a[1]), 0, 1, 0, 7));
        all.add(new Method("doneAt", a -> x.doneAt(a[0]), 0, 1));
        all.add(new Method("lateJobs", a -> x.lateJobs()));
        all.add(new Method("queued", a -> x.queued(a[0], a[1]), 0, 1, 0, NO_END));
        all.add(new Method("estimate", a -> x.estimate(a[0]), 0, 7));
        all.add(new Method("deviation", a -> x.deviation(a[0]), 0, 7));
        all.add(new Method("willBeDone", a -> x.willBeDone(a[0]), 0, 1));
        all.add(new Method("allOver", a -> x.allOver()));
        all.add(new Method("willBeLate", a -> x.willBeLate()));
        all.add(new Method("peak", a -> x.peak(a[0], a[1]), 0, 1, 1, 500));
        all.add(new Method("energyIn", a -> x.energyIn(a[0]), 1, 500));
        all.add(new Method("nextThrottle", a -> x.nextThrottle(a[0]), 0, 1));
        all.add(new Method("bestPolicy", a -> x.bestPolicy(a[0]), 0, 1));
        all.add(new Method("coolLimit", a -> x.coolLimit(a[0]), 0, 1));
        all.add(new Method("levelEnergy(0, ..)", a -> x.levelEnergy(0, a[0], a[1], a[2]), 0, 1, 1, 9999, 1, 9999));
        all.add(new Method("levelEnergy(1, ..)", a -> x.levelEnergy(1, a[0], a[1], a[2]), 0, 2, 1, 9999, 1, 9999));
        all.add(new Method("levelEnergy(.., 0, 1, 1)", a -> x.levelEnergy(a[0], 0, 1, 1), 0, 1));
        all.add(new Method("bestLevel", a -> x.bestLevel(a[0], a[1], a[2]), 0, 1, 1, 9999, 1, 9999));
        all.add(new Method("mixedEnergy", a -> x.mixedEnergy(a[0], a[1], a[2]), 0, 1, 1, 500, 1, 100));
        all.add(new Method("packedWakeUps", a -> x.packedWakeUps(a[0]), 0, 1));
        all.add(new Method("packedTick", a -> x.packedTick(a[0], a[1]), 0, 1, 0, NO_END));
        all.add(new Method("packedJobs", a -> x.packedJobs(a[0], a[1]), 0, 1, 0, NO_END));
        all.add(new Method("undo", a -> x.undo()));
        return all;
    }

    public static void main(String[] args) {
        for (Method method : methods()) {
            withoutSystem(method);
            beyondTheEnds(method);
            atTheEnds(method);
        }
        twentyFourJobs();
        CHECK.end();
    }

    private static int[] least(Method method) {
        int[] a = new int[method.ends.length / 2];
        for (int i = 0; i < a.length; i++) {
            a[i] = method.ends[2 * i];
        }
        return a;
    }

    private static void start() {
        x = Check.loaded(TEXT);
        x.addJob(0, 0, 0, 0, 500, 20);
        x.addJob(1, 7, 3, 3, 40, 20);
        x.tick(1);
    }

    private static void withoutSystem(Method method) {
        x = new ThermalCoreScheduler();
        int[] a = least(method);
        CHECK.state(method.name + " without a system", () -> method.call.apply(a));
        if (a.length > 0) {
            a[0] = -1;
            CHECK.state(method.name + " without a system, with a wrong argument", () -> method.call.apply(a));
        }
        Check.load(x, "system");
        CHECK.state(method.name + " after a failed load", () -> method.call.apply(least(method)));
    }

    private static void beyondTheEnds(Method method) {
        start();
        String before = Picture.of(x);
        for (int i = 0; i < method.ends.length / 2; i++) {
            int[] a = least(method);
            int[] beyond = {method.ends[2 * i] - 1, Integer.MIN_VALUE, method.ends[2 * i + 1] + 1, Integer.MAX_VALUE};
            for (int k = 0; k < (method.ends[2 * i + 1] == NO_END ? 2 : 4); k++) {
                a[i] = beyond[k];
                CHECK.argument(method.name + " with argument " + i + " = " + a[i], () -> method.call.apply(a));
            }
        }
        CHECK.same("the picture after refusals of " + method.name, Picture.of(x), before);
        if (method.ends.length > 0) {
            CHECK.same("undo() after refusals of " + method.name, x.undo(), 2);
        }
    }

    private static void atTheEnds(Method method) {
        for (int i = 0; i < method.ends.length; i++) {
            start();
            int[] a = least(method);
            a[i / 2] = method.ends[i];
            Object answer = Check.answer(() -> method.call.apply(a));
            boolean refused = "throws.IllegalArgumentException".equals(answer)
                    || "throws.IllegalStateException".equals(answer);
            CHECK.same(method.name + " with argument " + i / 2 + " = " + a[i / 2] + " is refused", refused, false);
        }
    }

    private static void twentyFourJobs() {
        x = Check.loaded(TEXT);
        for (int job = 0; job < 24; job++) {
            CHECK.same("addJob " + job, x.addJob(job % 2, 0, 999, 999, 1, 1), job);
        }
        String before = Picture.of(x);
        CHECK.same("a 25th job", x.addJob(0, 0, 0, 0, 1, 1), -2);
        CHECK.argument("a 25th job with a wrong argument", () -> x.addJob(0, 0, 0, 0, 0, 1));
        CHECK.same("the picture after the 25th job", Picture.of(x), before);
        CHECK.same("jobCount", x.jobCount(), 24);
        x.cancelJob(5);
        CHECK.same("cancelled jobs count, too", x.addJob(0, 0, 0, 0, 1, 1), -2);
        CHECK.same("cancelJob of a cancelled job", x.cancelJob(5), -2);
        CHECK.same("undo() takes back the cancelling, not the refusals", x.undo(), 9);
        CHECK.same("the picture after undo", Picture.of(x), before);
        CHECK.same("all jobs are open", x.willBeLate(), (1 << 24) - 1);
        CHECK.argument("jobValue(24, 0)", () -> x.jobValue(24, 0));
        CHECK.same("jobValue(23, 0)", x.jobValue(23, 0), 1);
        CHECK.same("undo() of the 24th job", x.undo(), 8);
        CHECK.argument("jobValue(23, 0) after it", () -> x.jobValue(23, 0));
        CHECK.same("addJob after it", x.addJob(0, 0, 0, 0, 1, 1), 23);
    }
}
