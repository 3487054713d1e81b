import java.util.Random;
import java.util.function.Supplier;

/** All promises: the class and the model answer the same calls, drawn from fixed seeds, in the same way. */
public final class ModelTest {
    private static final int RUNS = 400;
    private static final int CALLS = 180;
    private static final int[] ODD = {-1, -2, 4, 5, 8, 9, 24, 500, 501, 1000, 9999, 10000, 99999, 100000,
        Integer.MIN_VALUE, Integer.MAX_VALUE};

    private static final Check CHECK = new Check("ModelTest");
    private static Random random;
    private static ThermalCoreScheduler x;
    private static Model m;
    private static String run;

    /** More runs than usual may be asked for by an argument. */
    public static void main(String[] args) {
        int runs = args.length > 0 ? Integer.parseInt(args[0]) : RUNS;
        for (int seed = 1; seed <= runs; seed++) {
            random = new Random(seed);
            x = new ThermalCoreScheduler();
            m = new Model();
            run = "run " + seed;
            if (seed % 8 != 0) {
                loadText(systemText());
            }
            for (int call = 0; call < CALLS; call++) {
                oneCall();
            }
        }
        CHECK.end();
    }

    private static void ask(String call, Supplier<Object> got, Supplier<Object> due) {
        CHECK.same(run + " " + call, Check.answer(got), Check.answer(due));
    }

    private static int upTo(int greatest) {
        return random.nextInt(greatest + 1);
    }

    /** Mostly in the range, now and then one beside it. */
    private static int arg(int least, int greatest) {
        int dice = upTo(59);
        if (dice == 0) {
            return least - 1;
        }
        if (dice == 1) {
            return greatest + 1;
        }
        if (dice == 2) {
            return ODD[upTo(ODD.length - 1)];
        }
        if (dice < 6) {
            return dice % 2 == 0 ? least : greatest;
        }
        return least + random.nextInt(greatest - least + 1);
    }

    private static int domain() {
        int domains = m.world == null ? 1 : m.world.domains.size();
        return arg(0, domains - 1);
    }

    private static int job() {
        int jobs = m.world == null ? 1 : m.world.jobs.size();
        return arg(0, Math.max(0, jobs - 1));
    }

    // ---- texts

    /** Mostly small numbers, so that limits, credits and deadlines matter; in some texts each in its whole range. */
    private static String systemText() {
        boolean whole = upTo(5) == 0;
        StringBuilder text = new StringBuilder("system " + upTo(whole ? 9999 : 500) + ";");
        int domains = 1 + upTo(3);
        for (int d = 0; d < domains; d++) {
            int limit = whole || upTo(4) == 0 ? upTo(99999) : 100 + upTo(1500);
            text.append("domain ").append(1 + upTo(3)).append(' ').append(limit).append(' ');
            text.append(upTo(whole ? 999 : 300)).append(' ').append(1 + upTo(whole || upTo(1) == 0 ? 998 : 200));
            text.append(' ').append(upTo(whole ? 99 : 20)).append(' ').append(upTo(4)).append(' ');
            text.append(upTo(whole ? 99 : 6)).append(' ').append(Model.POLICIES[upTo(3)]).append(';');
            int frequency = 0;
            int power = 0;
            int levels = 1 + upTo(4);
            for (int l = 0; l < levels; l++) {
                frequency += 1 + upTo(whole ? 198 : 30);
                power = whole ? upTo(999) : upTo(3) == 0 ? upTo(200) : power + upTo(90);
                text.append("level ").append(frequency).append(' ').append(power).append(';');
            }
        }
        return text.substring(0, Math.min(500, text.length()));
    }

    private static String spoilt(String text) {
        StringBuilder s = new StringBuilder(text);
        for (int i = upTo(2); i >= 0 && s.length() > 1; i--) {
            int at = upTo(s.length() - 1);
            String[] pieces = {" ", "\n", ";", "0", "9", "99999", "level 999 9;", "domain", "a", "#", "\u00e9", "level",
                "domain 1 1 1 1 1 1 1 min;level 1 1;"};
            switch (upTo(3)) {
                case 0 -> s.deleteCharAt(at);
                case 1 -> s.insert(at, pieces[upTo(pieces.length - 1)]);
                case 2 -> s.append(pieces[upTo(pieces.length - 1)]);
                default -> s.setLength(at);
            }
        }
        return s.substring(0, Math.min(500, s.length()));
    }

    private static void loadText(String text) {
        x.truncate(0);
        m.truncate(0);
        Check.write(x, text);
        m.text = text;
        ask("load of " + text, () -> x.load(), () -> m.load());
        ask("errorPosition()", () -> x.errorPosition(), () -> m.errorPosition());
    }

    private static void loadSome() {
        if (upTo(2) == 0) {
            ask("load()", () -> x.load(), () -> m.load());
            ask("errorPosition()", () -> x.errorPosition(), () -> m.errorPosition());
        } else {
            loadText(upTo(3) == 0 ? systemText() : spoilt(systemText()));
        }
    }

    // ---- calls

    private static void oneCall() {
        int dice = upTo(99);
        if (dice < 20) {
            addJob();
        } else if (dice < 40) {
            otherAction();
        } else if (dice < 44) {
            ask("undo()", () -> x.undo(), () -> m.undo());
        } else if (dice < 47) {
            bufferCall();
        } else if (dice < 62) {
            domainQuery();
        } else if (dice < 78) {
            jobQuery();
        } else if (dice < 86) {
            forecast();
        } else if (dice < 92) {
            pacing();
        } else {
            packing();
        }
    }

    private static void addJob() {
        int a = domain();
        int b = arg(0, 7);
        int c = upTo(1) == 0 ? upTo(30) : arg(0, upTo(6) == 0 ? 999 : 60);
        int d = upTo(1) == 0 ? upTo(20) : arg(0, upTo(6) == 0 ? 999 : 60);
        int e = arg(1, upTo(9) == 0 ? 9999 : 300);
        int f = arg(1, upTo(9) == 0 ? 9999 : 40);
        ask("addJob(" + a + ", " + b + ", " + c + ", " + d + ", " + e + ", " + f + ")",
                () -> x.addJob(a, b, c, d, e, f), () -> m.addJob(a, b, c, d, e, f));
    }

    private static void otherAction() {
        int d = domain();
        int dice = upTo(19);
        if (dice < 3) {
            int j = job();
            ask("cancelJob(" + j + ")", () -> x.cancelJob(j), () -> m.cancelJob(j));
        } else if (dice < 5) {
            int p = arg(0, 3);
            ask("setPolicy(" + d + ", " + p + ")", () -> x.setPolicy(d, p), () -> m.setPolicy(d, p));
        } else if (dice < 7) {
            int l = arg(0, upTo(4) == 0 ? 99999 : 1000);
            ask("setLimit(" + d + ", " + l + ")", () -> x.setLimit(d, l), () -> m.setLimit(d, l));
        } else if (dice < 8) {
            int a = arg(0, upTo(4) == 0 ? 9999 : 600);
            ask("setAmbient(" + a + ")", () -> x.setAmbient(a), () -> m.setAmbient(a));
        } else {
            int n = upTo(19) == 0 ? arg(1, 500) : 1 + upTo(upTo(3) == 0 ? 25 : 4);
            ask("tick(" + n + ")", () -> x.tick(n), () -> m.tick(n));
        }
    }

    private static void bufferCall() {
        int dice = upTo(3);
        if (dice == 0) {
            int a = random.nextInt();
            ask("append", () -> x.append(a, 1, 2, 3, a), () -> m.append(a, 1, 2, 3, a));
        } else if (dice == 1) {
            int n = arg(0, m.text.length());
            ask("truncate(" + n + ")", () -> x.truncate(n), () -> m.truncate(n));
        } else if (upTo(5) == 0) {
            loadSome();
        }
    }

    private static void domainQuery() {
        int d = domain();
        int w = arg(0, 8);
        int c = arg(0, 3);
        int p = arg(0, 3);
        ask("clock()", () -> x.clock(), () -> m.clock());
        ask("temperature(" + d + ")", () -> x.temperature(d), () -> m.temperature(d));
        ask("level(" + d + ")", () -> x.level(d), () -> m.level(d));
        ask("energy(" + d + ")", () -> x.energy(d), () -> m.energy(d));
        ask("domainValue(" + d + ", " + w + ")", () -> x.domainValue(d, w), () -> m.domainValue(d, w));
        ask("jobOn(" + d + ", " + c + ")", () -> x.jobOn(d, c), () -> m.jobOn(d, c));
        ask("throttleOrder(" + p + ")", () -> x.throttleOrder(p), () -> m.throttleOrder(p));
        ask("meanPower(" + d + ")", () -> x.meanPower(d), () -> m.meanPower(d));
    }

    private static void jobQuery() {
        int j = job();
        int d = domain();
        int w = arg(0, 7);
        int p = arg(0, 6);
        ask("jobCount()", () -> x.jobCount(), () -> m.jobCount());
        ask("jobValue(" + j + ", " + w + ")", () -> x.jobValue(j, w), () -> m.jobValue(j, w));
        ask("jobValue(" + j + ", 7)", () -> x.jobValue(j, 7), () -> m.jobValue(j, 7));
        ask("doneAt(" + j + ")", () -> x.doneAt(j), () -> m.doneAt(j));
        ask("lateJobs()", () -> x.lateJobs(), () -> m.lateJobs());
        ask("queued(" + d + ", " + p + ")", () -> x.queued(d, p), () -> m.queued(d, p));
        ask("estimate(" + w + ")", () -> x.estimate(w), () -> m.estimate(w));
        ask("deviation(" + w + ")", () -> x.deviation(w), () -> m.deviation(w));
    }

    private static void forecast() {
        int j = job();
        int d = domain();
        int n = arg(1, upTo(9) == 0 ? 500 : 50);
        switch (upTo(7)) {
            case 0 -> ask("willBeDone(" + j + ")", () -> x.willBeDone(j), () -> m.willBeDone(j));
            case 1 -> ask("allOver()", () -> x.allOver(), () -> m.allOver());
            case 2 -> ask("willBeLate()", () -> x.willBeLate(), () -> m.willBeLate());
            case 3 -> ask("peak(" + d + ", " + n + ")", () -> x.peak(d, n), () -> m.peak(d, n));
            case 4 -> ask("energyIn(" + n + ")", () -> x.energyIn(n), () -> m.energyIn(n));
            case 5 -> ask("nextThrottle(" + d + ")", () -> x.nextThrottle(d), () -> m.nextThrottle(d));
            case 6 -> ask("bestPolicy(" + d + ")", () -> x.bestPolicy(d), () -> m.bestPolicy(d));
            default -> ask("coolLimit(" + d + ")", () -> x.coolLimit(d), () -> m.coolLimit(d));
        }
    }

    private static void pacing() {
        int d = domain();
        int l = arg(0, 4);
        int w = arg(1, upTo(1) == 0 ? 9999 : 500);
        int v = arg(1, upTo(1) == 0 ? 9999 : 100);
        ask("levelEnergy(" + d + ", " + l + ", " + w + ", " + v + ")", () -> x.levelEnergy(d, l, w, v),
                () -> m.levelEnergy(d, l, w, v));
        ask("bestLevel(" + d + ", " + w + ", " + v + ")", () -> x.bestLevel(d, w, v), () -> m.bestLevel(d, w, v));
        ask("mixedEnergy(" + d + ", " + w + ", " + v + ")", () -> x.mixedEnergy(d, w, v),
                () -> m.mixedEnergy(d, w, v));
    }

    private static void packing() {
        int d = domain();
        int i = arg(0, 5);
        ask("packedWakeUps(" + d + ")", () -> x.packedWakeUps(d), () -> m.packedWakeUps(d));
        ask("packedTick(" + d + ", " + i + ")", () -> x.packedTick(d, i), () -> m.packedTick(d, i));
        ask("packedJobs(" + d + ", " + i + ")", () -> x.packedJobs(d, i), () -> m.packedJobs(d, i));
    }
}
