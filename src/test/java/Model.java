import java.util.ArrayDeque;
import java.util.ArrayList;
import java.util.Comparator;
import java.util.Deque;
import java.util.List;
import java.util.NoSuchElementException;
import java.util.TreeMap;
import java.util.regex.Matcher;
import java.util.regex.Pattern;

/**
 * The document once more, written for plainness alone and in another way than the class: objects and lists, whole
 * copies for undo, and searches by trial. ModelTest lets both answer the same calls.
 */
final class Model {
    static final String[] POLICIES = {"max", "min", "demand", "race"};

    static final class Level {
        int frequency;
        int power;
    }

    static final class Domain {
        int cores, limit, heating, cooling, idle, base, capacity, policy;
        List<Level> levels = new ArrayList<>();
        int temperature, level, energy, credits, throttlings, halts, wakeUps;
        Job[] running = new Job[4];

        boolean awake() {
            for (Job job : running) {
                if (job != null) {
                    return true;
                }
            }
            return false;
        }
    }

    static final class Job {
        int number, domain, kind, release, slack, work, deadline, remaining, status;
        int doneAt = -2;

        boolean over() {
            return status >= 3;
        }
    }

    static final class World {
        int clock, ambient;
        List<Domain> domains = new ArrayList<>();
        List<Job> jobs = new ArrayList<>();
        TreeMap<Integer, Integer> estimates = new TreeMap<>();

        World copy() {
            World w = new World();
            w.clock = clock;
            w.ambient = ambient;
            w.estimates.putAll(estimates);
            for (Job j : jobs) {
                Job k = new Job();
                k.number = j.number;
                k.domain = j.domain;
                k.kind = j.kind;
                k.release = j.release;
                k.slack = j.slack;
                k.work = j.work;
                k.deadline = j.deadline;
                k.remaining = j.remaining;
                k.status = j.status;
                k.doneAt = j.doneAt;
                w.jobs.add(k);
            }
            for (Domain d : domains) {
                Domain e = new Domain();
                e.cores = d.cores;
                e.limit = d.limit;
                e.heating = d.heating;
                e.cooling = d.cooling;
                e.idle = d.idle;
                e.base = d.base;
                e.capacity = d.capacity;
                e.policy = d.policy;
                e.levels = d.levels;
                e.temperature = d.temperature;
                e.level = d.level;
                e.energy = d.energy;
                e.credits = d.credits;
                e.throttlings = d.throttlings;
                e.halts = d.halts;
                e.wakeUps = d.wakeUps;
                for (int c = 0; c < 4; c++) {
                    e.running[c] = d.running[c] == null ? null : w.jobs.get(d.running[c].number);
                }
                w.domains.add(e);
            }
            return w;
        }

        boolean over() {
            return jobs.stream().allMatch(Job::over);
        }

        long energy() {
            return domains.stream().mapToLong(d -> d.energy).sum();
        }

        int tick() {
            int done = 0;
            for (int n = 0; n < domains.size(); n++) {
                done += tick(n, domains.get(n));
            }
            clock++;
            return done;
        }

        int tick(int n, Domain d) {
            List<Job> waiting = new ArrayList<>();
            for (Job j : jobs) {
                if (j.domain == n && j.status == 0) {
                    waiting.add(j);
                }
            }
            boolean awake = d.awake();
            boolean release = awake;
            for (Job j : waiting) {
                release |= j.release + j.slack <= clock;
            }
            for (Job j : waiting) {
                if (release && j.release <= clock) {
                    j.status = 1;
                }
            }
            for (int c = 0; c < d.cores; c++) {
                if (d.running[c] == null) {
                    Job best = null;
                    for (Job j : jobs) {
                        if (j.domain == n && j.status == 1 && (best == null || j.deadline < best.deadline)) {
                            best = j;
                        }
                    }
                    if (best != null) {
                        best.status = 2;
                        d.running[c] = best;
                    }
                }
            }
            boolean busy = d.awake();
            if (busy && !awake) {
                d.wakeUps++;
            }
            int level = suggest(d, busy);
            if (busy && d.credits == 0 && level > d.base) {
                level = d.base;
            }
            boolean lowered = false;
            while (busy && level > 0 && after(d, power(d, level)) > d.limit) {
                level--;
                lowered = true;
            }
            if (lowered) {
                d.throttlings++;
            }
            boolean halts = busy && level == 0 && after(d, power(d, 0)) > d.limit;
            int power = halts ? d.cores * d.idle : power(d, level);
            int done = 0;
            if (halts) {
                d.halts++;
            } else {
                for (int c = 0; c < d.cores; c++) {
                    Job j = d.running[c];
                    if (j == null) {
                        continue;
                    }
                    j.remaining -= d.levels.get(level).frequency;
                    if (j.remaining <= 0) {
                        j.remaining = 0;
                        j.status = 3;
                        j.doneAt = clock + 1;
                        Integer old = estimates.get(j.kind);
                        estimates.put(j.kind, old == null ? j.work : old + (j.work - old) / 4);
                        d.running[c] = null;
                        done++;
                    }
                }
            }
            d.energy += power;
            if (busy && !halts && level > d.base) {
                d.credits--;
            } else {
                d.credits = Math.min(d.credits + 1, d.capacity);
            }
            d.level = level;
            d.temperature = after(d, power);
            return done;
        }

        int suggest(Domain d, boolean busy) {
            int highest = d.levels.size() - 1;
            if (d.policy == 0) {
                return highest;
            }
            if (d.policy == 1 || !busy) {
                return 0;
            }
            if (d.policy == 3) {
                return highest;
            }
            for (int level = 0; level < highest; level++) {
                boolean enough = true;
                for (Job j : d.running) {
                    if (j != null) {
                        // remaining / time, rounded up, is at most f exactly if remaining is at most f * time
                        int time = Math.max(1, j.deadline - clock);
                        enough &= j.remaining <= (long) d.levels.get(level).frequency * time;
                    }
                }
                if (enough) {
                    return level;
                }
            }
            return highest;
        }

        int power(Domain d, int level) {
            int sum = 0;
            for (int c = 0; c < d.cores; c++) {
                sum += d.running[c] == null ? d.idle : d.levels.get(level).power;
            }
            return sum;
        }

        int after(Domain d, int power) {
            return d.temperature + d.heating * power / 100 - (d.temperature - ambient) * d.cooling / 1000;
        }

        int late() {
            int set = 0;
            for (Job j : jobs) {
                if (j.status < 3 || j.status == 3 && j.doneAt > j.deadline) {
                    set |= 1 << j.number;
                }
            }
            return set;
        }

        World whenOver() {
            World w = copy();
            for (int i = 0; i < 1000 && !w.over(); i++) {
                w.tick();
            }
            return w;
        }

        int troubles(int domain) {
            return domains.get(domain).throttlings + domains.get(domain).halts;
        }
    }

    String text = "";
    int errorPosition = -1;
    World world;
    final Deque<World> past = new ArrayDeque<>();

    int append(int... words) {
        if (text.length() + 20 > 500) {
            throw new IllegalStateException();
        }
        for (int word : words) {
            for (int shift = 24; shift >= 0; shift -= 8) {
                text += (char) (word >> shift & 255);
            }
        }
        return text.length();
    }

    int truncate(int length) {
        check(length >= 0 && length <= text.length());
        text = text.substring(0, length);
        return length;
    }

    // ---- the system text

    private static final Pattern TOKEN = Pattern.compile("[ \n]*(?:([a-z]+)|([0-9]+)|(;))");

    int load() {
        List<String> tokens = new ArrayList<>();
        List<Integer> starts = new ArrayList<>();
        Matcher m = TOKEN.matcher(text);
        int at = 0;
        while (m.find(at) && m.start() == at) {
            int group = m.group(1) != null ? 1 : m.group(2) != null ? 2 : 3;
            String token = m.group(group);
            tokens.add(group == 2 && token.length() > 5 ? "?" : token);
            starts.add(m.start(group));
            at = m.end();
        }
        while (at < text.length() && (text.charAt(at) == ' ' || text.charAt(at) == '\n')) {
            at++;
        }
        tokens.add(at == text.length() ? "" : "?");
        starts.add(at);
        text = "";
        World loaded = new World();
        int[] error = parse(tokens, loaded);
        errorPosition = error == null ? -1 : starts.get(error[1]);
        if (error != null) {
            return -10 - error[0];
        }
        for (Domain d : loaded.domains) {
            d.base = Math.min(d.base, d.levels.size() - 1);
            d.temperature = loaded.ambient;
            d.credits = d.capacity;
        }
        world = loaded;
        past.clear();
        return world.domains.size();
    }

    private static final String[][] STATEMENTS = {
        {"system", "0-9999", ";"},
        {"domain", "1-4", "0-99999", "0-999", "1-999", "0-99", "0-4", "0-99", "policy", ";"},
        {"level", "1-999", "0-999", ";"}};

    /** Null, or the code of the first error and the number of its token. */
    private static int[] parse(List<String> tokens, World w) {
        int previous = -1;
        for (int at = 0; at < tokens.size();) {
            if (previous == 2 && tokens.get(at).isEmpty()) {
                return null;
            }
            int kind = -1;
            for (int k = 0; k < 3; k++) {
                boolean may = k == previous + 1 || previous == 2 && k > 0;
                if (may && tokens.get(at).equals(STATEMENTS[k][0])) {
                    kind = k;
                }
            }
            if (kind < 0) {
                return new int[] {1, at};
            }
            Domain last = w.domains.isEmpty() ? null : w.domains.get(w.domains.size() - 1);
            if (kind == 1 && w.domains.size() == 4 || kind == 2 && last.levels.size() == 5) {
                return new int[] {3, at};
            }
            int[] values = new int[10];
            for (int i = 1; i < STATEMENTS[kind].length; i++) {
                int code = slot(STATEMENTS[kind][i], tokens.get(at + i), values, i);
                boolean frequency = kind == 2 && i == 1 && !last.levels.isEmpty();
                if (code == 0 && frequency && values[1] <= last.levels.get(last.levels.size() - 1).frequency) {
                    code = 2;
                }
                if (code != 0) {
                    return new int[] {code, at + i};
                }
            }
            take(kind, values, w, last);
            at += STATEMENTS[kind].length;
            previous = kind;
        }
        return new int[] {1, tokens.size() - 1};
    }

    private static int slot(String slot, String token, int[] values, int i) {
        if (slot.equals(";")) {
            return token.equals(";") ? 0 : 1;
        }
        if (slot.equals("policy")) {
            values[i] = List.of(POLICIES).indexOf(token);
            return values[i] < 0 ? 1 : 0;
        }
        if (!token.matches("[0-9]+")) {
            return 1;
        }
        values[i] = Integer.parseInt(token);
        String[] ends = slot.split("-");
        return values[i] < Integer.parseInt(ends[0]) || values[i] > Integer.parseInt(ends[1]) ? 2 : 0;
    }

    private static void take(int kind, int[] v, World w, Domain last) {
        if (kind == 0) {
            w.ambient = v[1];
        } else if (kind == 1) {
            Domain d = new Domain();
            d.cores = v[1];
            d.limit = v[2];
            d.heating = v[3];
            d.cooling = v[4];
            d.idle = v[5];
            d.base = v[6];
            d.capacity = v[7];
            d.policy = v[8];
            w.domains.add(d);
        } else {
            Level l = new Level();
            l.frequency = v[1];
            l.power = v[2];
            last.levels.add(l);
        }
    }

    // ---- checks

    private static void check(boolean fine) {
        if (!fine) {
            throw new IllegalArgumentException();
        }
    }

    private void system() {
        if (world == null) {
            throw new IllegalStateException();
        }
    }

    private Domain domain(int domain) {
        system();
        check(domain >= 0 && domain < world.domains.size());
        return world.domains.get(domain);
    }

    private Job job(int job) {
        system();
        check(job >= 0 && job < world.jobs.size());
        return world.jobs.get(job);
    }

    private void remember() {
        past.addLast(world.copy());
        if (past.size() > 10) {
            past.removeFirst();
        }
    }

    // ---- actions

    int addJob(int domain, int kind, int delay, int slack, int work, int time) {
        domain(domain);
        check(kind >= 0 && kind <= 7 && delay >= 0 && delay <= 999 && slack >= 0 && slack <= 999);
        check(work >= 1 && work <= 9999 && time >= 1 && time <= 9999);
        if (world.jobs.size() == 24) {
            return -2;
        }
        remember();
        Job j = new Job();
        j.number = world.jobs.size();
        j.domain = domain;
        j.kind = kind;
        j.release = world.clock + delay;
        j.slack = slack;
        j.work = work;
        j.remaining = work;
        j.deadline = j.release + time;
        world.jobs.add(j);
        return j.number;
    }

    int cancelJob(int job) {
        if (job(job).over()) {
            return -2;
        }
        remember();
        Job j = world.jobs.get(job);
        j.status = 4;
        Job[] running = world.domains.get(j.domain).running;
        for (int c = 0; c < 4; c++) {
            if (running[c] == j) {
                running[c] = null;
            }
        }
        return j.remaining;
    }

    int setPolicy(int domain, int policy) {
        Domain d = domain(domain);
        check(policy >= 0 && policy <= 3);
        remember();
        int old = d.policy;
        d.policy = policy;
        return old;
    }

    int setLimit(int domain, int limit) {
        Domain d = domain(domain);
        check(limit >= 0 && limit <= 99999);
        remember();
        int old = d.limit;
        d.limit = limit;
        return old;
    }

    int setAmbient(int ambient) {
        system();
        check(ambient >= 0 && ambient <= 9999);
        remember();
        int old = world.ambient;
        world.ambient = ambient;
        return old;
    }

    int tick(int count) {
        system();
        check(count >= 1 && count <= 500);
        remember();
        int done = 0;
        for (int i = 0; i < count; i++) {
            done += world.tick();
        }
        return done;
    }

    int undo() {
        system();
        if (past.isEmpty()) {
            return -2;
        }
        world = past.removeLast();
        return past.size();
    }

    // ---- domains

    int clock() {
        system();
        return world.clock;
    }

    int temperature(int domain) {
        return domain(domain).temperature;
    }

    int level(int domain) {
        return domain(domain).level;
    }

    int energy(int domain) {
        return domain(domain).energy;
    }

    int domainValue(int domain, int what) {
        Domain d = domain(domain);
        check(what >= 0 && what <= 8);
        return new int[] {d.credits, d.throttlings, d.halts, d.wakeUps, d.limit, d.policy, d.levels.size(), d.cores,
            d.base}[what];
    }

    int jobOn(int domain, int core) {
        Domain d = domain(domain);
        check(core >= 0 && core < d.cores);
        return d.running[core] == null ? -2 : d.running[core].number;
    }

    int throttleOrder(int place) {
        system();
        check(place >= 0);
        List<Integer> order = new ArrayList<>();
        for (int n = 0; n < world.domains.size(); n++) {
            order.add(n);
        }
        order.sort(Comparator.comparing(n -> world.domains.get(n).limit - world.domains.get(n).temperature));
        if (place >= order.size()) {
            throw new NoSuchElementException();
        }
        return order.get(place);
    }

    float meanPower(int domain) {
        Domain d = domain(domain);
        if (world.clock == 0) {
            throw new ArithmeticException();
        }
        return (float) d.energy / (float) world.clock;
    }

    // ---- jobs

    int jobCount() {
        system();
        return world.jobs.size();
    }

    int jobValue(int job, int what) {
        Job j = job(job);
        check(what >= 0 && what <= 7);
        return new int[] {j.domain, j.kind, j.release, j.slack, j.work, j.deadline, j.remaining, j.status}[what];
    }

    int doneAt(int job) {
        return job(job).doneAt;
    }

    int lateJobs() {
        system();
        int set = 0;
        for (Job j : world.jobs) {
            if (j.status == 3 && j.doneAt > j.deadline) {
                set |= 1 << j.number;
            }
        }
        return set;
    }

    int queued(int domain, int place) {
        domain(domain);
        check(place >= 0);
        List<Job> list = new ArrayList<>();
        for (Job j : world.jobs) {
            if (j.domain == domain && j.status <= 1) {
                list.add(j);
            }
        }
        list.sort(Comparator.comparing(j -> j.deadline));
        if (place >= list.size()) {
            throw new NoSuchElementException();
        }
        return list.get(place).number;
    }

    int estimate(int kind) {
        system();
        check(kind >= 0 && kind <= 7);
        return world.estimates.getOrDefault(kind, 0);
    }

    double deviation(int kind) {
        int estimate = estimate(kind);
        long sum = 0;
        long number = 0;
        for (Job j : world.jobs) {
            if (j.status == 3 && j.kind == kind) {
                sum += Math.abs(j.work - estimate);
                number++;
            }
        }
        if (number == 0) {
            throw new ArithmeticException();
        }
        return (double) sum / (double) number;
    }

    // ---- forecasts

    int willBeDone(int job) {
        job(job);
        World w = world.copy();
        for (int i = 0; i < 1000 && w.jobs.get(job).status < 3; i++) {
            w.tick();
        }
        return w.jobs.get(job).doneAt;
    }

    int allOver() {
        system();
        World w = world.whenOver();
        return w.over() ? w.clock : -2;
    }

    int willBeLate() {
        system();
        return world.whenOver().late();
    }

    int peak(int domain, int count) {
        domain(domain);
        check(count >= 1 && count <= 500);
        World w = world.copy();
        int peak = w.domains.get(domain).temperature;
        for (int i = 0; i < count; i++) {
            w.tick();
            peak = Math.max(peak, w.domains.get(domain).temperature);
        }
        return peak;
    }

    int energyIn(int count) {
        system();
        check(count >= 1 && count <= 500);
        World w = world.copy();
        for (int i = 0; i < count; i++) {
            w.tick();
        }
        return (int) (w.energy() - world.energy());
    }

    int nextThrottle(int domain) {
        domain(domain);
        World w = world.copy();
        for (int i = 1; i <= 1000; i++) {
            w.tick();
            if (w.troubles(domain) > world.troubles(domain)) {
                return i;
            }
        }
        return -2;
    }

    int bestPolicy(int domain) {
        domain(domain);
        TreeMap<Long, Integer> order = new TreeMap<>();
        for (int policy = 0; policy < 4; policy++) {
            World w = world.copy();
            w.domains.get(domain).policy = policy;
            w = w.whenOver();
            long energy = w.energy() - world.energy();
            order.putIfAbsent((long) Integer.bitCount(w.late()) << 40 | energy, policy);
        }
        return order.firstEntry().getValue();
    }

    int coolLimit(int domain) {
        domain(domain);
        if (!isCool(domain, 99999)) {
            return -2;
        }
        int hot = -1;
        int cool = 99999;
        while (cool - hot > 1) {
            int middle = (hot + cool) / 2;
            if (isCool(domain, middle)) {
                cool = middle;
            } else {
                hot = middle;
            }
        }
        return cool;
    }

    private boolean isCool(int domain, int limit) {
        World w = world.copy();
        w.domains.get(domain).limit = limit;
        return w.whenOver().troubles(domain) == world.troubles(domain);
    }

    // ---- racing and pacing

    int levelEnergy(int domain, int level, int work, int window) {
        Domain d = domain(domain);
        check(level >= 0 && level < d.levels.size() && work >= 1 && work <= 9999 && window >= 1 && window <= 9999);
        Level l = d.levels.get(level);
        int ticks = 0;
        for (int left = work; left > 0; left -= l.frequency) {
            ticks++;
        }
        return ticks > window ? -2 : ticks * l.power + (window - ticks) * d.idle;
    }

    int bestLevel(int domain, int work, int window) {
        Domain d = domain(domain);
        check(work >= 1 && work <= 9999 && window >= 1 && window <= 9999);
        int best = -2;
        for (int level = d.levels.size() - 1; level >= 0; level--) {
            int energy = levelEnergy(domain, level, work, window);
            if (energy != -2 && (best == -2 || energy < levelEnergy(domain, best, work, window))) {
                best = level;
            }
        }
        return best;
    }

    int mixedEnergy(int domain, int work, int window) {
        Domain d = domain(domain);
        check(work >= 1 && work <= 500 && window >= 1 && window <= 100);
        int energy = mix(d, work, window, new Integer[501][101]);
        return energy > 1000000 ? -2 : energy;
    }

    private static int mix(Domain d, int work, int window, Integer[][] known) {
        if (window == 0) {
            return work == 0 ? 0 : 10000000;
        }
        if (known[work][window] == null) {
            int least = d.idle + mix(d, work, window - 1, known);
            for (Level l : d.levels) {
                least = Math.min(least, l.power + mix(d, Math.max(0, work - l.frequency), window - 1, known));
            }
            known[work][window] = least;
        }
        return known[work][window];
    }

    // ---- packing, tick by tick from the clock on

    private List<int[]> pack(int domain) {
        domain(domain);
        List<Job> open = new ArrayList<>();
        for (Job j : world.jobs) {
            if (j.domain == domain && j.status == 0) {
                open.add(j);
            }
        }
        List<int[]> ticks = new ArrayList<>();
        for (int tick = world.clock; !open.isEmpty(); tick++) {
            int now = tick;
            if (open.stream().anyMatch(j -> Math.max(j.release + j.slack, world.clock) == now)) {
                int set = 0;
                for (Job j : open) {
                    set |= j.release <= now ? 1 << j.number : 0;
                }
                open.removeIf(j -> j.release <= now);
                ticks.add(new int[] {tick, set});
            }
        }
        return ticks;
    }

    int packedWakeUps(int domain) {
        return pack(domain).size();
    }

    int packedTick(int domain, int index) {
        List<int[]> ticks = pack(domain);
        check(index >= 0);
        return index < ticks.size() ? ticks.get(index)[0] : -2;
    }

    int packedJobs(int domain, int index) {
        List<int[]> ticks = pack(domain);
        check(index >= 0);
        return index < ticks.size() ? ticks.get(index)[1] : -2;
    }

    int errorPosition() {
        return errorPosition;
    }
}
