import java.util.ArrayList;
import java.util.List;
import java.util.function.Function;

/**
 * Section 6: a method that throws an exception or returns an error changes nothing, and neither does a query. Two
 * schedulers get the same actions; one of them gets every refused call and every query between any two of them. In
 * the end both are alike, also in what undo() brings back.
 */
public final class RefusalTest {
    private static final Check CHECK = new Check("RefusalTest");
    private static final String TEXT = "system 100;domain 2 400 100 300 5 0 3 race;level 10 50;level 20 200;"
            + "domain 1 160 50 50 2 1 0 demand;level 5 10;level 10 40;level 20 100;";
    private static final int MAX = Integer.MAX_VALUE;
    private static final int MIN = Integer.MIN_VALUE;

    /** A call, and whether it must be refused: by an exception or by a negative answer. */
    private record Call(String name, Function<ThermalCoreScheduler, Object> ask, boolean refused) {
    }

    private static final List<Call> CALLS = new ArrayList<>();

    public static void main(String[] args) {
        refusedActions();
        refusedQueries();
        queries();
        eachCallAlone();
        twins();
        refusedBuffer();
        refusedUndo();
        withoutASystem();
        CHECK.end();
    }

    private static void refused(String name, Function<ThermalCoreScheduler, Object> ask) {
        CALLS.add(new Call(name, ask, true));
    }

    private static void query(String name, Function<ThermalCoreScheduler, Object> ask) {
        CALLS.add(new Call(name, ask, false));
    }

    private static void refusedActions() {
        for (int wrong : new int[] {-1, 2, MIN, MAX}) {
            refused("addJob in a wrong domain", x -> x.addJob(wrong, 0, 0, 0, 1, 1));
            refused("setPolicy of a wrong domain", x -> x.setPolicy(wrong, 0));
            refused("setLimit of a wrong domain", x -> x.setLimit(wrong, 0));
        }
        for (int wrong : new int[] {-1, 24, MIN, MAX}) {
            refused("cancelJob of a wrong job", x -> x.cancelJob(wrong));
            refused("addJob of a wrong kind", x -> x.addJob(0, wrong, 0, 0, 1, 1));
            refused("setPolicy to a wrong policy", x -> x.setPolicy(0, wrong));
        }
        for (int wrong : new int[] {-1, 1000, MIN, MAX}) {
            refused("addJob with a wrong delay", x -> x.addJob(0, 0, wrong, 0, 1, 1));
            refused("addJob with a wrong slack", x -> x.addJob(0, 0, 0, wrong, 1, 1));
        }
        for (int wrong : new int[] {-1, 0, 10000, MIN, MAX}) {
            refused("addJob with a wrong work", x -> x.addJob(0, 0, 0, 0, wrong, 1));
            refused("addJob with a wrong time", x -> x.addJob(0, 0, 0, 0, 1, wrong));
        }
        for (int wrong : new int[] {-1, 100000, MIN, MAX}) {
            refused("setLimit to a wrong limit", x -> x.setLimit(0, wrong));
            refused("setAmbient to a wrong temperature", x -> x.setAmbient(wrong));
        }
        refused("setAmbient(10000)", x -> x.setAmbient(10000));
        for (int wrong : new int[] {-1, 0, 501, MIN, MAX}) {
            refused("tick", x -> x.tick(wrong));
        }
        for (int wrong : new int[] {-1, 501, MIN, MAX}) {
            refused("truncate", x -> x.truncate(wrong));
        }
    }

    private static void refusedQueries() {
        for (int wrong : new int[] {-1, 2, MIN, MAX}) {
            refused("temperature", x -> x.temperature(wrong));
            refused("level", x -> x.level(wrong));
            refused("energy", x -> x.energy(wrong));
            refused("domainValue of a wrong domain", x -> x.domainValue(wrong, 0));
            refused("jobOn a wrong core", x -> x.jobOn(0, wrong));
            refused("throttleOrder", x -> x.throttleOrder(wrong));
            refused("meanPower", x -> x.meanPower(wrong));
            refused("queued in a wrong domain", x -> x.queued(wrong, 0));
            refused("peak of a wrong domain", x -> x.peak(wrong, 1));
            refused("nextThrottle", x -> x.nextThrottle(wrong));
            refused("bestPolicy", x -> x.bestPolicy(wrong));
            refused("coolLimit", x -> x.coolLimit(wrong));
            refused("levelEnergy of a wrong level", x -> x.levelEnergy(0, wrong, 1, 1));
            refused("packedWakeUps", x -> x.packedWakeUps(wrong));
        }
        for (int wrong : new int[] {-1, 24, MIN, MAX}) {
            refused("domainValue of nothing", x -> x.domainValue(0, wrong));
            refused("jobValue of a wrong job", x -> x.jobValue(wrong, 0));
            refused("jobValue of nothing", x -> x.jobValue(0, wrong));
            refused("doneAt", x -> x.doneAt(wrong));
            refused("queued at a wrong place", x -> x.queued(0, wrong));
            refused("estimate", x -> x.estimate(wrong));
            refused("deviation", x -> x.deviation(wrong));
            refused("willBeDone", x -> x.willBeDone(wrong));
            refused("packedTick", x -> x.packedTick(0, wrong));
            refused("packedJobs", x -> x.packedJobs(0, wrong));
        }
        for (int wrong : new int[] {-1, 0, 501, MIN, MAX}) {
            refused("peak", x -> x.peak(0, wrong));
            refused("energyIn", x -> x.energyIn(wrong));
            refused("mixedEnergy of a wrong work", x -> x.mixedEnergy(0, wrong, 1));
            refused("mixedEnergy in a wrong window", x -> x.mixedEnergy(0, 1, wrong));
        }
        refused("levelEnergy in too small a window", x -> x.levelEnergy(0, 0, 9999, 1));
        refused("bestLevel in too small a window", x -> x.bestLevel(0, 9999, 1));
        refused("mixedEnergy in too small a window", x -> x.mixedEnergy(0, 500, 1));
        refused("deviation of a kind that has no job", x -> x.deviation(0));
    }

    private static void queries() {
        query("clock", x -> x.clock());
        query("jobCount", x -> x.jobCount());
        query("lateJobs", x -> x.lateJobs());
        query("estimate", x -> x.estimate(1));
        query("errorPosition", x -> x.errorPosition());
        query("allOver", x -> x.allOver());
        query("willBeLate", x -> x.willBeLate());
        query("energyIn", x -> x.energyIn(500));
        query("throttleOrder", x -> x.throttleOrder(1));
        for (int domain = 0; domain < 2; domain++) {
            int d = domain;
            query("temperature", x -> x.temperature(d));
            query("level", x -> x.level(d));
            query("energy", x -> x.energy(d));
            query("domainValue", x -> x.domainValue(d, 0));
            query("jobOn", x -> x.jobOn(d, 0));
            query("peak", x -> x.peak(d, 500));
            query("nextThrottle", x -> x.nextThrottle(d));
            query("bestPolicy", x -> x.bestPolicy(d));
            query("coolLimit", x -> x.coolLimit(d));
            query("levelEnergy", x -> x.levelEnergy(d, 0, 9, 9));
            query("bestLevel", x -> x.bestLevel(d, 9, 9));
            query("mixedEnergy", x -> x.mixedEnergy(d, 9, 9));
            query("packedWakeUps", x -> x.packedWakeUps(d));
            query("packedTick", x -> x.packedTick(d, 0));
            query("packedJobs", x -> x.packedJobs(d, 0));
        }
        // These may be refused or not, as the jobs stand.
        query("meanPower", x -> x.meanPower(0));
        query("queued", x -> x.queued(0, 0));
        query("deviation", x -> x.deviation(1));
        query("jobValue", x -> x.jobValue(0, 7));
        query("doneAt", x -> x.doneAt(0));
        query("willBeDone", x -> x.willBeDone(0));
    }

    private static boolean isRefusal(Object answer) {
        return answer instanceof String || answer instanceof Integer number && number < 0;
    }

    /** The actions that both twins take, -2 standing for none that was refused. */
    private static int act(ThermalCoreScheduler x, int number) {
        switch (number) {
            case 0:
                return x.addJob(0, 1, 1, 2, 90, 6);
            case 1:
                return x.addJob(1, 1, 0, 0, 60, 6);
            case 2:
                return x.tick(4);
            case 3:
                return x.addJob(0, 2, 5, 9, 30, 4);
            case 4:
                return x.setLimit(0, 330);
            case 5:
                return x.tick(3);
            case 6:
                return x.setPolicy(1, 3);
            case 7:
                return x.cancelJob(1);
            case 8:
                return x.setAmbient(70);
            case 9:
                return x.addJob(1, 1, 0, 1, 15, 6);
            case 10:
                return x.tick(2);
            default:
                return x.tick(17);
        }
    }

    private static void ask(ThermalCoreScheduler x, Call call) {
        Object answer = Check.answer(() -> call.ask.apply(x));
        if (call.refused) {
            CHECK.same(call.name + " is refused, not answered with " + answer, isRefusal(answer), true);
        }
    }

    private static void eachCallAlone() {
        ThermalCoreScheduler x = Check.loaded(TEXT);
        for (int number = 0; number < 10; number++) {
            act(x, number);
        }
        String before = Picture.of(x);
        for (Call call : CALLS) {
            CHECK.about("section 6: " + call.name + " changes nothing");
            ask(x, call);
            CHECK.same("the picture", Picture.of(x), before);
        }
    }

    private static void twins() {
        CHECK.about("section 6: what is refused or asked leaves no trace");
        ThermalCoreScheduler asked = Check.loaded(TEXT);
        ThermalCoreScheduler quiet = Check.loaded(TEXT);
        CALLS.forEach(call -> ask(asked, call));
        for (int number = 0; number < 12; number++) {
            CHECK.same("action " + number, act(asked, number), act(quiet, number));
            CALLS.forEach(call -> ask(asked, call));
            CHECK.same("the pictures after action " + number, Picture.of(asked), Picture.of(quiet));
        }
        for (int left = 9; left >= 0; left--) {
            CHECK.same("undo()", asked.undo(), left);
            CHECK.same("undo() of the other", quiet.undo(), left);
            CALLS.forEach(call -> ask(asked, call));
            CHECK.same("the pictures with " + left + " left", Picture.of(asked), Picture.of(quiet));
        }
        CHECK.same("the latest 10 actions were remembered: undo()", asked.undo(), -2);
        CHECK.same("the picture after it", Picture.of(asked), Picture.of(quiet));
        CHECK.same("two actions are left", asked.jobCount(), 2);
    }

    private static void refusedBuffer() {
        CHECK.about("section 6: the buffer keeps its bytes through every call but append, truncate and load");
        ThermalCoreScheduler x = Check.loaded(TEXT);
        String other = "system 7;domain 1 1 1 1 1 1 1 max;level 1 1;";
        Check.write(x, other);
        CALLS.forEach(call -> ask(x, call));
        for (int number = 0; number < 12; number++) {
            act(x, number);
        }
        x.undo();
        CHECK.argument("truncate to one more", () -> x.truncate(other.length() + 1));
        CHECK.same("truncate to the same", x.truncate(other.length()), other.length());
        CHECK.same("load()", x.load(), 1);
        CHECK.same("the ambient temperature", x.setAmbient(0), 7);
    }

    private static void refusedUndo() {
        CHECK.about("promise 41: -2 if there is no action to undo, and nothing changes");
        ThermalCoreScheduler x = Check.loaded(TEXT);
        String first = Picture.of(x);
        CHECK.same("undo()", x.undo(), -2);
        CHECK.same("the picture", Picture.of(x), first);
        for (int number = 0; number < 12; number++) {
            act(x, number);
        }
        for (int left = 9; left >= 0; left--) {
            CHECK.same("undo()", x.undo(), left);
        }
        String tenth = Picture.of(x);
        for (int again = 0; again < 3; again++) {
            CHECK.same("undo() of the action before the latest ten", x.undo(), -2);
            CHECK.same("the picture", Picture.of(x), tenth);
        }
        CHECK.about("promise 41: after that, actions are remembered as before");
        for (int number = 2; number < 12; number++) {
            act(x, number);
        }
        for (int left = 9; left >= 0; left--) {
            CHECK.same("undo()", x.undo(), left);
        }
        CHECK.same("undo()", x.undo(), -2);
        CHECK.same("the picture", Picture.of(x), tenth);
    }

    private static void withoutASystem() {
        for (Call call : CALLS) {
            boolean free = call.name.equals("truncate") || call.name.equals("errorPosition");
            CHECK.about("section 6: IllegalStateException is checked first: " + call.name);
            ThermalCoreScheduler x = new ThermalCoreScheduler();
            if (!free) {
                CHECK.state("without a text", () -> call.ask.apply(x));
                Check.load(x, "system 1;");
                CHECK.state("after a wrong text", () -> call.ask.apply(x));
                CHECK.same("load()", Check.load(x, TEXT), 2);
                CHECK.same("undo() after load()", x.undo(), -2);
            }
        }
        CHECK.about("section 6: append, truncate, load and errorPosition need no system");
        ThermalCoreScheduler y = new ThermalCoreScheduler();
        CHECK.same("append", y.append(0, 0, 0, 0, 0), 20);
        CHECK.same("truncate(3)", y.truncate(3), 3);
        CHECK.same("load()", y.load(), -11);
        CHECK.same("errorPosition()", y.errorPosition(), 0);
        CHECK.state("undo()", () -> y.undo());
    }
}
