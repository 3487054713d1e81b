import java.util.NoSuchElementException;

/** A scheduler for a simulated processor with frequency domains; README.md says how to use it. */
public final class ThermalCoreScheduler {
    public static final int NONE = -1;

    private static final int REFUSED = -2;
    private static final int NO_JOB = -2;
    private static final int MAX_TEXT = 500;
    private static final int APPENDED_BYTES = 20;
    private static final int MAX_DOMAINS = 4;
    private static final int MAX_CORES = 4;
    private static final int MAX_LEVELS = 5;
    private static final int MAX_JOBS = 24;
    private static final int KINDS = 8;
    private static final int MAX_LIMIT = 99999;
    private static final int MAX_AMBIENT = 9999;
    private static final int MAX_TICKS = 500;
    private static final int FORECAST_TICKS = 1000;
    private static final int MAX_ACTIONS = 10;
    private static final int MAX_MIXED_WORK = 500;
    private static final int MAX_MIXED_WINDOW = 100;
    private static final int UNBOUNDED = 2147483647;

    private static final int POLICY_MAX = 0;
    private static final int POLICY_MIN = 1;
    private static final int POLICY_DEMAND = 2;
    private static final int POLICY_RACE = 3;
    private static final int POLICIES = 4;

    private static final int WAITING = 0;
    private static final int READY = 1;
    private static final int RUNNING = 2;
    private static final int DONE = 3;
    private static final int CANCELLED = 4;

    private final Text text;
    private final TextParser parser;
    private final Setup setup;
    private final State state;
    private final State forecast;
    private final History history;
    private final WakeUpPlan plan;
    private final TickMixer mixer;
    private boolean loaded;
    private int latestErrorPosition;

    // Every row that any call needs is made here, because nothing that a call makes is ever given back.
    public ThermalCoreScheduler() {
        text = new Text();
        parser = new TextParser(text);
        setup = new Setup();
        state = new State(setup);
        forecast = new State(setup);
        history = new History(setup);
        plan = new WakeUpPlan();
        mixer = new TickMixer();
        loaded = false;
        latestErrorPosition = NONE;
    }

    public int append(int a, int b, int c, int d, int e) throws IllegalStateException {
        if (text.length > MAX_TEXT - APPENDED_BYTES) {
            throw new IllegalStateException("the text buffer is full");
        }
        text.addBytesOf(a);
        text.addBytesOf(b);
        text.addBytesOf(c);
        text.addBytesOf(d);
        text.addBytesOf(e);
        return text.length;
    }

    public int truncate(int length) throws IllegalArgumentException {
        needRange(length, 0, text.length);
        text.length = length;
        return length;
    }

    public int load() {
        boolean correct = parser.parseText();
        text.length = 0;
        latestErrorPosition = parser.errorStart;
        if (!correct) {
            return -10 - parser.errorCode;
        }
        setup.copyFrom(parser.parsed);
        state.reset();
        history.forgetAll();
        loaded = true;
        return setup.domainCount;
    }

    public int errorPosition() {
        return latestErrorPosition;
    }

    public int addJob(int domain, int kind, int delay, int slack, int work, int time)
            throws IllegalStateException, IllegalArgumentException {
        needDomain(domain);
        needRange(kind, 0, KINDS - 1);
        needRange(delay, 0, 999);
        needRange(slack, 0, 999);
        needRange(work, 1, 9999);
        needRange(time, 1, 9999);
        if (state.jobs.count >= MAX_JOBS) {
            return REFUSED;
        }
        history.remember(state);
        int job = state.jobs.addTo(domain, kind, work);
        state.jobs.setTimes(job, state.clock + delay, slack, time);
        return job;
    }

    public int cancelJob(int job) throws IllegalStateException, IllegalArgumentException {
        needJob(job);
        if (state.jobs.isOver(job)) {
            return REFUSED;
        }
        history.remember(state);
        state.cancel(job);
        return state.jobs.remaining[job];
    }

    public int setPolicy(int domain, int policy) throws IllegalStateException, IllegalArgumentException {
        needDomain(domain);
        needRange(policy, 0, POLICIES - 1);
        history.remember(state);
        int previous = state.policies[domain];
        state.policies[domain] = policy;
        return previous;
    }

    public int setLimit(int domain, int limit) throws IllegalStateException, IllegalArgumentException {
        needDomain(domain);
        needRange(limit, 0, MAX_LIMIT);
        history.remember(state);
        int previous = state.limits[domain];
        state.limits[domain] = limit;
        return previous;
    }

    public int setAmbient(int ambient) throws IllegalStateException, IllegalArgumentException {
        needSystem();
        needRange(ambient, 0, MAX_AMBIENT);
        history.remember(state);
        int previous = state.ambient;
        state.ambient = ambient;
        return previous;
    }

    public int tick(int count) throws IllegalStateException, IllegalArgumentException {
        needSystem();
        needRange(count, 1, MAX_TICKS);
        history.remember(state);
        int done = 0;
        for (int passed = 0; passed < count; passed++) {
            done += state.passTick();
        }
        return done;
    }

    public int clock() throws IllegalStateException {
        needSystem();
        return state.clock;
    }

    public int temperature(int domain) throws IllegalStateException, IllegalArgumentException {
        needDomain(domain);
        return state.temperatures[domain];
    }

    public int level(int domain) throws IllegalStateException, IllegalArgumentException {
        needDomain(domain);
        return state.levels[domain];
    }

    public int energy(int domain) throws IllegalStateException, IllegalArgumentException {
        needDomain(domain);
        return state.energies[domain];
    }

    public int domainValue(int domain, int what) throws IllegalStateException, IllegalArgumentException {
        needDomain(domain);
        switch (what) {
            case 0:
                return state.credits[domain];
            case 1:
                return state.throttlings[domain];
            case 2:
                return state.halts[domain];
            case 3:
                return state.wakeUps[domain];
            case 4:
                return state.limits[domain];
            case 5:
                return state.policies[domain];
            case 6:
                return setup.levelCounts[domain];
            case 7:
                return setup.cores[domain];
            case 8:
                return setup.baseLevels[domain];
            default:
                throw new IllegalArgumentException("what is out of its range");
        }
    }

    public int jobOn(int domain, int core) throws IllegalStateException, IllegalArgumentException {
        needDomain(domain);
        needRange(core, 0, setup.cores[domain] - 1);
        return state.coreJobs[domain * MAX_CORES + core];
    }

    public int throttleOrder(int place)
            throws IllegalStateException, IllegalArgumentException, NoSuchElementException {
        needSystem();
        needNotNegative(place);
        for (int domain = 0; domain < setup.domainCount; domain++) {
            if (state.throttleRank(domain) == place) {
                return domain;
            }
        }
        throw new NoSuchElementException("there are not so many domains");
    }

    public float meanPower(int domain)
            throws IllegalStateException, IllegalArgumentException, ArithmeticException {
        needDomain(domain);
        if (state.clock == 0) {
            throw new ArithmeticException("no tick has passed");
        }
        return (float) state.energies[domain] / (float) state.clock;
    }

    public int jobCount() throws IllegalStateException {
        needSystem();
        return state.jobs.count;
    }

    public int jobValue(int job, int what) throws IllegalStateException, IllegalArgumentException {
        needJob(job);
        JobTable jobs = state.jobs;
        switch (what) {
            case 0:
                return jobs.domains[job];
            case 1:
                return jobs.kinds[job];
            case 2:
                return jobs.releases[job];
            case 3:
                return jobs.slacks[job];
            case 4:
                return jobs.works[job];
            case 5:
                return jobs.deadlines[job];
            case 6:
                return jobs.remaining[job];
            case 7:
                return jobs.statusOf(job);
            default:
                throw new IllegalArgumentException("what is out of its range");
        }
    }

    public int doneAt(int job) throws IllegalStateException, IllegalArgumentException {
        needJob(job);
        return state.jobs.endOf(job);
    }

    public int lateJobs() throws IllegalStateException {
        needSystem();
        return state.jobs.lateOf(state.jobs.done);
    }

    public int queued(int domain, int place)
            throws IllegalStateException, IllegalArgumentException, NoSuchElementException {
        needDomain(domain);
        needNotNegative(place);
        JobTable jobs = state.jobs;
        int rest = jobs.waiting[domain] | jobs.ready[domain];
        if (place >= Integer.bitCount(rest)) {
            throw new NoSuchElementException("there are not so many jobs");
        }
        for (int before = 0; before < place; before++) {
            rest = without(rest, jobs.firstByDeadline(rest));
        }
        return jobs.firstByDeadline(rest);
    }

    public int estimate(int kind) throws IllegalStateException, IllegalArgumentException {
        needSystem();
        needRange(kind, 0, KINDS - 1);
        return state.jobs.estimates[kind];
    }

    public double deviation(int kind)
            throws IllegalStateException, IllegalArgumentException, ArithmeticException {
        needSystem();
        needRange(kind, 0, KINDS - 1);
        int number = state.jobs.doneOfKind[kind];
        if (number == 0) {
            throw new ArithmeticException("no job of this kind is done");
        }
        return (double) state.jobs.deviationSum(kind) / (double) number;
    }

    public int willBeDone(int job) throws IllegalStateException, IllegalArgumentException {
        needJob(job);
        forecast.copyFrom(state);
        for (int passed = 0; passed < FORECAST_TICKS && !forecast.jobs.isOver(job); passed++) {
            forecast.passTick();
        }
        return forecast.jobs.endOf(job);
    }

    public int allOver() throws IllegalStateException {
        needSystem();
        forecast.copyFrom(state);
        forecast.passTicksUntilOver();
        return forecast.jobs.areOver() ? forecast.clock : REFUSED;
    }

    public int willBeLate() throws IllegalStateException {
        needSystem();
        forecast.copyFrom(state);
        forecast.passTicksUntilOver();
        return forecast.jobs.lateOrOpen();
    }

    public int peak(int domain, int count) throws IllegalStateException, IllegalArgumentException {
        needDomain(domain);
        needRange(count, 1, MAX_TICKS);
        forecast.copyFrom(state);
        int greatest = forecast.temperatures[domain];
        for (int passed = 0; passed < count; passed++) {
            forecast.passTick();
            greatest = Math.max(greatest, forecast.temperatures[domain]);
        }
        return greatest;
    }

    public int energyIn(int count) throws IllegalStateException, IllegalArgumentException {
        needSystem();
        needRange(count, 1, MAX_TICKS);
        forecast.copyFrom(state);
        for (int passed = 0; passed < count; passed++) {
            forecast.passTick();
        }
        return (int) (forecast.energySum() - state.energySum());
    }

    public int nextThrottle(int domain) throws IllegalStateException, IllegalArgumentException {
        needDomain(domain);
        forecast.copyFrom(state);
        int before = state.throttlings[domain] + state.halts[domain];
        for (int passed = 1; passed <= FORECAST_TICKS; passed++) {
            forecast.passTick();
            if (forecast.throttlings[domain] + forecast.halts[domain] != before) {
                return passed;
            }
        }
        return REFUSED;
    }

    public int bestPolicy(int domain) throws IllegalStateException, IllegalArgumentException {
        needDomain(domain);
        int best = 0;
        int fewestLate = MAX_JOBS + 1;
        long leastEnergy = 0;
        for (int policy = 0; policy < POLICIES; policy++) {
            forecast.copyFrom(state);
            forecast.policies[domain] = policy;
            forecast.passTicksUntilOver();
            int late = Integer.bitCount(forecast.jobs.lateOrOpen());
            long energy = forecast.energySum();
            if (late < fewestLate || late == fewestLate && energy < leastEnergy) {
                best = policy;
                fewestLate = late;
                leastEnergy = energy;
            }
        }
        return best;
    }

    // A limit lets everything pass exactly if no tick with a job ends hotter than it when nothing is limited,
    // so one forecast without a limit finds the least one.
    public int coolLimit(int domain) throws IllegalStateException, IllegalArgumentException {
        needDomain(domain);
        forecast.copyFrom(state);
        forecast.limits[domain] = UNBOUNDED;
        int needed = 0;
        for (int passed = 0; passed < FORECAST_TICKS && !forecast.jobs.areOver(); passed++) {
            forecast.passTick();
            if (forecast.busyCores[domain] > 0) {
                needed = Math.max(needed, forecast.temperatures[domain]);
            }
        }
        return needed > MAX_LIMIT ? REFUSED : needed;
    }

    public int levelEnergy(int domain, int level, int work, int window)
            throws IllegalStateException, IllegalArgumentException {
        needDomain(domain);
        needRange(level, 0, setup.levelCounts[domain] - 1);
        needRange(work, 1, 9999);
        needRange(window, 1, 9999);
        return setup.energyAt(domain, level, work, window);
    }

    public int bestLevel(int domain, int work, int window)
            throws IllegalStateException, IllegalArgumentException {
        needDomain(domain);
        needRange(work, 1, 9999);
        needRange(window, 1, 9999);
        int best = REFUSED;
        int leastEnergy = UNBOUNDED;
        for (int level = 0; level < setup.levelCounts[domain]; level++) {
            int energy = setup.energyAt(domain, level, work, window);
            if (energy != REFUSED && energy <= leastEnergy) {
                best = level;
                leastEnergy = energy;
            }
        }
        return best;
    }

    public int mixedEnergy(int domain, int work, int window)
            throws IllegalStateException, IllegalArgumentException {
        needDomain(domain);
        needRange(work, 1, MAX_MIXED_WORK);
        needRange(window, 1, MAX_MIXED_WINDOW);
        return mixer.leastEnergy(setup, domain, work, window);
    }

    public int packedWakeUps(int domain) throws IllegalStateException, IllegalArgumentException {
        needDomain(domain);
        plan.makeFor(state, domain);
        return plan.count;
    }

    public int packedTick(int domain, int index) throws IllegalStateException, IllegalArgumentException {
        needDomain(domain);
        needNotNegative(index);
        plan.makeFor(state, domain);
        return index < plan.count ? plan.ticks[index] : REFUSED;
    }

    public int packedJobs(int domain, int index) throws IllegalStateException, IllegalArgumentException {
        needDomain(domain);
        needNotNegative(index);
        plan.makeFor(state, domain);
        return index < plan.count ? plan.served[index] : REFUSED;
    }

    public int undo() throws IllegalStateException {
        needSystem();
        if (history.count == 0) {
            return REFUSED;
        }
        history.takeBackInto(state);
        return history.count;
    }

    private void needSystem() {
        if (!loaded) {
            throw new IllegalStateException("no system text was loaded");
        }
    }

    private void needDomain(int domain) {
        needSystem();
        needRange(domain, 0, setup.domainCount - 1);
    }

    private void needJob(int job) {
        needSystem();
        needRange(job, 0, state.jobs.count - 1);
    }

    private static void needRange(int value, int least, int greatest) {
        if (value < least || value > greatest) {
            throw new IllegalArgumentException("an argument is out of its range");
        }
    }

    private static void needNotNegative(int value) {
        if (value < 0) {
            throw new IllegalArgumentException("an argument is negative");
        }
    }

    private static boolean holds(int set, int job) {
        return (set >>> job & 1) == 1;
    }

    private static int with(int set, int job) {
        return set | 1 << job;
    }

    private static int without(int set, int job) {
        return set & ~(1 << job);
    }

    // A divisor below 1 counts as 1: the document asks for that where time runs out, and frequencies are never below.
    private static int dividedUp(int amount, int divisor) {
        int safe = divisor > 0 ? divisor : 1;
        return amount / safe + (amount % safe > 0 ? 1 : 0);
    }

    private static void copyRow(int[] from, int[] to) {
        System.arraycopy(from, 0, to, 0, Math.min(from.length, to.length));
    }

    /** The text buffer. */
    private static final class Text {
        final byte[] bytes = new byte[MAX_TEXT];
        int length;

        void addBytesOf(int value) {
            for (int shift = 24; shift >= 0 && length < bytes.length; shift -= 8) {
                bytes[length] = (byte) (value >>> shift);
                length++;
            }
        }

        int byteAt(int position) {
            return position >= 0 && position < bytes.length ? bytes[position] : 0;
        }
    }

    /** Reads the tokens of a text one after the other. */
    private static final class TokenReader {
        static final int END = 0;
        static final int BLANK = 1;
        static final int WORD = 2;
        static final int NUMBER = 3;
        static final int SEMICOLON = 4;
        static final int WRONG = 5;
        static final int MAX_DIGITS = 5;

        private final Text text;
        int kind;
        int start;
        private int end;

        TokenReader(Text text) {
            this.text = text;
        }

        void readFirst() {
            end = 0;
            readNext();
        }

        void readNext() {
            start = end;
            while (start < text.length && kindAt(start) == BLANK) {
                start++;
            }
            kind = kindAt(start);
            end = Math.min(start + 1, text.length);
            while (end < text.length && (kind == WORD || kind == NUMBER) && kindAt(end) == kind) {
                end++;
            }
            if (kind == NUMBER && end - start > MAX_DIGITS) {
                kind = WRONG;
            }
        }

        private int kindAt(int position) {
            if (position >= text.length) {
                return END;
            }
            int sign = text.byteAt(position);
            if (sign == ' ' || sign == '\n') {
                return BLANK;
            }
            if (sign >= 'a' && sign <= 'z') {
                return WORD;
            }
            if (sign >= '0' && sign <= '9') {
                return NUMBER;
            }
            return sign == ';' ? SEMICOLON : WRONG;
        }

        boolean isAtWord(String word) {
            if (kind != WORD || end - start != word.length()) {
                return false;
            }
            for (int i = 0; i < word.length(); i++) {
                if (text.byteAt(start + i) != word.charAt(i)) {
                    return false;
                }
            }
            return true;
        }

        int numberHere() {
            int number = 0;
            for (int position = start; position < end; position++) {
                number = number * 10 + (text.byteAt(position) - '0');
            }
            return number;
        }
    }

    /** Parses a system text and stops at the first error, which is the one with the least position. */
    private static final class TextParser {
        static final int WRONG_TOKEN = 1;
        static final int WRONG_NUMBER = 2;
        static final int TOO_MANY = 3;

        final Setup parsed = new Setup();
        int errorCode;
        int errorStart;
        private final TokenReader reader;
        private int number;

        TextParser(Text text) {
            reader = new TokenReader(text);
        }

        boolean parseText() {
            errorCode = 0;
            errorStart = NONE;
            reader.readFirst();
            if (!readSystem()) {
                return false;
            }
            for (int domain = 0; domain < MAX_DOMAINS; domain++) {
                if (!readDomain(domain) || !readLevels(domain)) {
                    return false;
                }
                parsed.domainCount = domain + 1;
                if (reader.kind == TokenReader.END) {
                    return true;
                }
            }
            return fail(reader.isAtWord("domain") ? TOO_MANY : WRONG_TOKEN);
        }

        private boolean readSystem() {
            if (!acceptWord("system") || !acceptNumber(0, MAX_AMBIENT)) {
                return false;
            }
            parsed.ambient = number;
            return acceptSemicolon();
        }

        private boolean readDomain(int domain) {
            return acceptWord("domain")
                    && readHeat(domain)
                    && readPower(domain)
                    && readPolicy(domain)
                    && acceptSemicolon();
        }

        private boolean readHeat(int domain) {
            if (!acceptNumber(1, MAX_CORES)) {
                return false;
            }
            parsed.cores[domain] = number;
            if (!acceptNumber(0, MAX_LIMIT)) {
                return false;
            }
            parsed.limits[domain] = number;
            if (!acceptNumber(0, 999)) {
                return false;
            }
            parsed.heatings[domain] = number;
            if (!acceptNumber(1, 999)) {
                return false;
            }
            parsed.coolings[domain] = number;
            return true;
        }

        private boolean readPower(int domain) {
            if (!acceptNumber(0, 99)) {
                return false;
            }
            parsed.idlePowers[domain] = number;
            if (!acceptNumber(0, MAX_LEVELS - 1)) {
                return false;
            }
            parsed.baseLevels[domain] = number;
            if (!acceptNumber(0, 99)) {
                return false;
            }
            parsed.capacities[domain] = number;
            return true;
        }

        private boolean readPolicy(int domain) {
            if (reader.isAtWord("max")) {
                parsed.policies[domain] = POLICY_MAX;
            } else if (reader.isAtWord("min")) {
                parsed.policies[domain] = POLICY_MIN;
            } else if (reader.isAtWord("demand")) {
                parsed.policies[domain] = POLICY_DEMAND;
            } else if (reader.isAtWord("race")) {
                parsed.policies[domain] = POLICY_RACE;
            } else {
                return fail(WRONG_TOKEN);
            }
            reader.readNext();
            return true;
        }

        private boolean readLevels(int domain) {
            int count = 0;
            while (count < MAX_LEVELS && (count == 0 || reader.isAtWord("level"))) {
                if (!readLevel(domain, count)) {
                    return false;
                }
                count++;
            }
            if (reader.isAtWord("level")) {
                return fail(TOO_MANY);
            }
            parsed.levelCounts[domain] = count;
            parsed.baseLevels[domain] = Math.min(parsed.baseLevels[domain], count - 1);
            return true;
        }

        private boolean readLevel(int domain, int level) {
            int at = domain * MAX_LEVELS + level;
            int least = level == 0 ? 1 : parsed.frequencies[at - 1] + 1;
            if (!acceptWord("level") || !acceptNumber(least, 999)) {
                return false;
            }
            parsed.frequencies[at] = number;
            if (!acceptNumber(0, 999)) {
                return false;
            }
            parsed.powers[at] = number;
            return acceptSemicolon();
        }

        private boolean acceptWord(String word) {
            if (!reader.isAtWord(word)) {
                return fail(WRONG_TOKEN);
            }
            reader.readNext();
            return true;
        }

        private boolean acceptNumber(int least, int greatest) {
            if (reader.kind != TokenReader.NUMBER) {
                return fail(WRONG_TOKEN);
            }
            number = reader.numberHere();
            if (number < least || number > greatest) {
                return fail(WRONG_NUMBER);
            }
            reader.readNext();
            return true;
        }

        private boolean acceptSemicolon() {
            if (reader.kind != TokenReader.SEMICOLON) {
                return fail(WRONG_TOKEN);
            }
            reader.readNext();
            return true;
        }

        private boolean fail(int code) {
            errorCode = code;
            errorStart = reader.start;
            return false;
        }
    }

    /** What a system text says of the processor; no action changes it. */
    private static final class Setup {
        int ambient;
        int domainCount;
        final int[] cores = new int[MAX_DOMAINS];
        final int[] limits = new int[MAX_DOMAINS];
        final int[] heatings = new int[MAX_DOMAINS];
        final int[] coolings = new int[MAX_DOMAINS];
        final int[] idlePowers = new int[MAX_DOMAINS];
        final int[] baseLevels = new int[MAX_DOMAINS];
        final int[] capacities = new int[MAX_DOMAINS];
        final int[] policies = new int[MAX_DOMAINS];
        final int[] levelCounts = new int[MAX_DOMAINS];
        final int[] frequencies = new int[MAX_DOMAINS * MAX_LEVELS];
        final int[] powers = new int[MAX_DOMAINS * MAX_LEVELS];

        void copyFrom(Setup other) {
            ambient = other.ambient;
            domainCount = other.domainCount;
            copyRow(other.cores, cores);
            copyRow(other.limits, limits);
            copyRow(other.heatings, heatings);
            copyRow(other.coolings, coolings);
            copyRow(other.idlePowers, idlePowers);
            copyRow(other.baseLevels, baseLevels);
            copyRow(other.capacities, capacities);
            copyRow(other.policies, policies);
            copyRow(other.levelCounts, levelCounts);
            copyRow(other.frequencies, frequencies);
            copyRow(other.powers, powers);
        }

        int energyAt(int domain, int level, int work, int window) {
            int at = domain * MAX_LEVELS + level;
            int ticks = dividedUp(work, frequencies[at]);
            if (ticks > window) {
                return REFUSED;
            }
            return ticks * powers[at] + (window - ticks) * idlePowers[domain];
        }
    }

    /** The jobs, in rows by their numbers; where they stand is held in sets, the running ones being in none. */
    private static final class JobTable {
        int count;
        int done;
        int cancelled;
        final int[] waiting = new int[MAX_DOMAINS];
        final int[] ready = new int[MAX_DOMAINS];
        final int[] domains = new int[MAX_JOBS];
        final int[] kinds = new int[MAX_JOBS];
        final int[] releases = new int[MAX_JOBS];
        final int[] slacks = new int[MAX_JOBS];
        final int[] works = new int[MAX_JOBS];
        final int[] deadlines = new int[MAX_JOBS];
        final int[] remaining = new int[MAX_JOBS];
        final int[] ends = new int[MAX_JOBS];
        final int[] estimates = new int[KINDS];
        final int[] doneOfKind = new int[KINDS];

        void reset() {
            count = 0;
            done = 0;
            cancelled = 0;
            for (int domain = 0; domain < MAX_DOMAINS; domain++) {
                waiting[domain] = 0;
                ready[domain] = 0;
            }
            for (int kind = 0; kind < KINDS; kind++) {
                estimates[kind] = 0;
                doneOfKind[kind] = 0;
            }
        }

        void copyFrom(JobTable other) {
            count = other.count;
            done = other.done;
            cancelled = other.cancelled;
            copyRow(other.waiting, waiting);
            copyRow(other.ready, ready);
            copyRow(other.domains, domains);
            copyRow(other.kinds, kinds);
            copyRow(other.releases, releases);
            copyRow(other.slacks, slacks);
            copyRow(other.works, works);
            copyRow(other.deadlines, deadlines);
            copyRow(other.remaining, remaining);
            copyRow(other.ends, ends);
            copyRow(other.estimates, estimates);
            copyRow(other.doneOfKind, doneOfKind);
        }

        int addTo(int domain, int kind, int work) {
            int job = count;
            if (job >= MAX_JOBS) {
                return NO_JOB;
            }
            domains[job] = domain;
            kinds[job] = kind;
            works[job] = work;
            remaining[job] = work;
            waiting[domain] = with(waiting[domain], job);
            count++;
            return job;
        }

        void setTimes(int job, int release, int slack, int time) {
            if (has(job)) {
                releases[job] = release;
                slacks[job] = slack;
                deadlines[job] = release + time;
            }
        }

        boolean has(int job) {
            return job >= 0 && job < count;
        }

        boolean isOver(int job) {
            return holds(done | cancelled, job);
        }

        boolean areOver() {
            return (done | cancelled) == (1 << count) - 1;
        }

        int statusOf(int job) {
            if (holds(done, job)) {
                return DONE;
            }
            if (holds(cancelled, job)) {
                return CANCELLED;
            }
            if (holds(waiting[domains[job]], job)) {
                return WAITING;
            }
            return holds(ready[domains[job]], job) ? READY : RUNNING;
        }

        int endOf(int job) {
            return holds(done, job) ? ends[job] : REFUSED;
        }

        int lateOf(int set) {
            int late = 0;
            for (int job = 0; job < count; job++) {
                if (holds(set, job) && ends[job] > deadlines[job]) {
                    late = with(late, job);
                }
            }
            return late;
        }

        int lateOrOpen() {
            int all = (1 << count) - 1;
            return all & ~(done | cancelled) | lateOf(done);
        }

        int deviationSum(int kind) {
            int sum = 0;
            for (int job = 0; job < count; job++) {
                if (holds(done, job) && kinds[job] == kind) {
                    sum += Math.abs(works[job] - estimates[kind]);
                }
            }
            return sum;
        }

        int firstByDeadline(int set) {
            int first = NO_JOB;
            for (int job = 0; job < count; job++) {
                if (holds(set, job) && (first == NO_JOB || deadlines[job] < deadlines[first])) {
                    first = job;
                }
            }
            return first;
        }

        int releasedBy(int tick, int set) {
            int released = 0;
            for (int job = 0; job < count; job++) {
                if (holds(set, job) && releases[job] <= tick) {
                    released = with(released, job);
                }
            }
            return released;
        }

        /** The tick in which the most urgent job of a set has used up its slack. */
        int leastSlackEnd(int set) {
            int least = UNBOUNDED;
            for (int job = 0; job < count; job++) {
                if (holds(set, job)) {
                    least = Math.min(least, releases[job] + slacks[job]);
                }
            }
            return least;
        }

        void cancel(int job) {
            int domain = domains[job];
            waiting[domain] = without(waiting[domain], job);
            ready[domain] = without(ready[domain], job);
            cancelled = with(cancelled, job);
        }

        void finish(int job, int end) {
            int kind = kinds[job];
            remaining[job] = 0;
            ends[job] = end;
            done = with(done, job);
            if (doneOfKind[kind] == 0) {
                estimates[kind] = works[job];
            } else {
                estimates[kind] += (works[job] - estimates[kind]) / 4;
            }
            doneOfKind[kind]++;
        }
    }

    /** All that actions change. */
    private static final class State {
        private final Setup setup;
        final JobTable jobs = new JobTable();
        int clock;
        int ambient;
        final int[] limits = new int[MAX_DOMAINS];
        final int[] policies = new int[MAX_DOMAINS];
        final int[] temperatures = new int[MAX_DOMAINS];
        final int[] levels = new int[MAX_DOMAINS];
        final int[] energies = new int[MAX_DOMAINS];
        final int[] credits = new int[MAX_DOMAINS];
        final int[] throttlings = new int[MAX_DOMAINS];
        final int[] halts = new int[MAX_DOMAINS];
        final int[] wakeUps = new int[MAX_DOMAINS];
        // How many cores had a job when the work of the latest tick began.
        final int[] busyCores = new int[MAX_DOMAINS];
        final int[] coreJobs = new int[MAX_DOMAINS * MAX_CORES];

        State(Setup setup) {
            this.setup = setup;
        }

        void reset() {
            jobs.reset();
            clock = 0;
            ambient = setup.ambient;
            copyRow(setup.limits, limits);
            copyRow(setup.policies, policies);
            copyRow(setup.capacities, credits);
            for (int domain = 0; domain < MAX_DOMAINS; domain++) {
                temperatures[domain] = setup.ambient;
                levels[domain] = 0;
                energies[domain] = 0;
                throttlings[domain] = 0;
                halts[domain] = 0;
                wakeUps[domain] = 0;
                busyCores[domain] = 0;
            }
            for (int at = 0; at < coreJobs.length; at++) {
                coreJobs[at] = NO_JOB;
            }
        }

        void copyFrom(State other) {
            jobs.copyFrom(other.jobs);
            clock = other.clock;
            ambient = other.ambient;
            copyRow(other.limits, limits);
            copyRow(other.policies, policies);
            copyRow(other.temperatures, temperatures);
            copyRow(other.levels, levels);
            copyRow(other.energies, energies);
            copyRow(other.credits, credits);
            copyRow(other.throttlings, throttlings);
            copyRow(other.halts, halts);
            copyRow(other.wakeUps, wakeUps);
            copyRow(other.busyCores, busyCores);
            copyRow(other.coreJobs, coreJobs);
        }

        void cancel(int job) {
            jobs.cancel(job);
            for (int at = 0; at < coreJobs.length; at++) {
                if (coreJobs[at] == job) {
                    coreJobs[at] = NO_JOB;
                }
            }
        }

        long energySum() {
            long sum = 0;
            for (int domain = 0; domain < setup.domainCount; domain++) {
                sum += energies[domain];
            }
            return sum;
        }

        /** How many domains stand before this one in the throttling order. */
        int throttleRank(int domain) {
            int distance = limits[domain] - temperatures[domain];
            int rank = 0;
            for (int other = 0; other < setup.domainCount; other++) {
                int otherDistance = limits[other] - temperatures[other];
                if (otherDistance < distance || otherDistance == distance && other < domain) {
                    rank++;
                }
            }
            return rank;
        }

        void passTicksUntilOver() {
            for (int passed = 0; passed < FORECAST_TICKS && !jobs.areOver(); passed++) {
                passTick();
            }
        }

        /** Returns how many jobs became done. */
        int passTick() {
            int done = 0;
            for (int domain = 0; domain < setup.domainCount; domain++) {
                startJobs(domain);
                done += runDomain(domain);
            }
            clock++;
            return done;
        }

        private void startJobs(int domain) {
            boolean wasAwake = countBusyCores(domain) > 0;
            releaseJobs(domain, wasAwake);
            assignJobs(domain);
            busyCores[domain] = countBusyCores(domain);
            if (!wasAwake && busyCores[domain] > 0) {
                wakeUps[domain]++;
            }
        }

        private int countBusyCores(int domain) {
            int busy = 0;
            for (int core = 0; core < setup.cores[domain]; core++) {
                if (coreJobs[domain * MAX_CORES + core] != NO_JOB) {
                    busy++;
                }
            }
            return busy;
        }

        private void releaseJobs(int domain, boolean awake) {
            int waiting = jobs.waiting[domain];
            if (waiting != 0 && (awake || jobs.leastSlackEnd(waiting) <= clock)) {
                int released = jobs.releasedBy(clock, waiting);
                jobs.waiting[domain] = waiting & ~released;
                jobs.ready[domain] |= released;
            }
        }

        private void assignJobs(int domain) {
            for (int core = 0; core < setup.cores[domain] && jobs.ready[domain] != 0; core++) {
                int at = domain * MAX_CORES + core;
                if (coreJobs[at] == NO_JOB) {
                    int job = jobs.firstByDeadline(jobs.ready[domain]);
                    jobs.ready[domain] = without(jobs.ready[domain], job);
                    coreJobs[at] = job;
                }
            }
        }

        private int runDomain(int domain) {
            boolean busy = busyCores[domain] > 0;
            int wanted = creditedLevel(domain, suggestedLevel(domain));
            int level = busy ? coolLevel(domain, wanted) : wanted;
            boolean halting = busy && level == 0 && isTooHot(domain, 0);
            if (level < wanted) {
                throttlings[domain]++;
            }
            if (halting) {
                halts[domain]++;
            }
            levels[domain] = level;
            int power = powerAt(domain, level, halting ? 0 : busyCores[domain]);
            energies[domain] += power;
            countCredit(domain, busy && !halting && level > setup.baseLevels[domain]);
            temperatures[domain] = temperatureAfter(domain, power);
            return halting ? 0 : workOnJobs(domain, setup.frequencies[domain * MAX_LEVELS + level]);
        }

        private int suggestedLevel(int domain) {
            boolean busy = busyCores[domain] > 0;
            int highest = setup.levelCounts[domain] - 1;
            switch (policies[domain]) {
                case POLICY_MAX:
                    return highest;
                case POLICY_DEMAND:
                    return busy ? levelFor(domain, greatestRequirement(domain)) : 0;
                case POLICY_RACE:
                    return busy ? highest : 0;
                default:
                    return 0;
            }
        }

        private int greatestRequirement(int domain) {
            int greatest = 0;
            for (int core = 0; core < setup.cores[domain]; core++) {
                int job = coreJobs[domain * MAX_CORES + core];
                if (jobs.has(job)) {
                    int requirement = dividedUp(jobs.remaining[job], jobs.deadlines[job] - clock);
                    greatest = Math.max(greatest, requirement);
                }
            }
            return greatest;
        }

        private int levelFor(int domain, int requirement) {
            int level = 0;
            while (level < setup.levelCounts[domain] - 1
                    && setup.frequencies[domain * MAX_LEVELS + level] < requirement) {
                level++;
            }
            return level;
        }

        private int creditedLevel(int domain, int level) {
            boolean capped = busyCores[domain] > 0 && credits[domain] == 0;
            return capped ? Math.min(level, setup.baseLevels[domain]) : level;
        }

        private int coolLevel(int domain, int wanted) {
            int level = wanted;
            while (level > 0 && isTooHot(domain, level)) {
                level--;
            }
            return level;
        }

        private boolean isTooHot(int domain, int level) {
            int power = powerAt(domain, level, busyCores[domain]);
            return temperatureAfter(domain, power) > limits[domain];
        }

        private int powerAt(int domain, int level, int workingCores) {
            int idleCores = setup.cores[domain] - workingCores;
            return workingCores * setup.powers[domain * MAX_LEVELS + level] + idleCores * setup.idlePowers[domain];
        }

        private int temperatureAfter(int domain, int power) {
            long now = temperatures[domain];
            long gained = (long) setup.heatings[domain] * power / 100;
            long lost = (now - ambient) * setup.coolings[domain] / 1000;
            return (int) (now + gained - lost);
        }

        private void countCredit(int domain, boolean used) {
            if (used) {
                credits[domain]--;
            } else if (credits[domain] < setup.capacities[domain]) {
                credits[domain]++;
            }
        }

        private int workOnJobs(int domain, int frequency) {
            int done = 0;
            for (int core = 0; core < setup.cores[domain]; core++) {
                int at = domain * MAX_CORES + core;
                int job = coreJobs[at];
                if (jobs.has(job)) {
                    jobs.remaining[job] -= frequency;
                    if (jobs.remaining[job] <= 0) {
                        jobs.finish(job, clock + 1);
                        coreJobs[at] = NO_JOB;
                        done++;
                    }
                }
            }
            return done;
        }
    }

    /** The states before the latest actions, in a ring. */
    private static final class History {
        int count;
        private int newest;
        private final State[] states = new State[MAX_ACTIONS];

        History(Setup setup) {
            for (int at = 0; at < states.length; at++) {
                states[at] = new State(setup);
            }
        }

        void forgetAll() {
            count = 0;
        }

        void remember(State state) {
            newest = newest + 1 < states.length ? newest + 1 : 0;
            State kept = states[newest];
            if (kept != null) {
                kept.copyFrom(state);
            }
            count = Math.min(count + 1, states.length);
        }

        void takeBackInto(State state) {
            State kept = states[newest];
            if (kept != null && count > 0) {
                state.copyFrom(kept);
                newest = newest > 0 ? newest - 1 : states.length - 1;
                count--;
            }
        }
    }

    /** The fewest ticks that serve all waiting jobs of a domain. */
    private static final class WakeUpPlan {
        int count;
        final int[] ticks = new int[MAX_JOBS];
        final int[] served = new int[MAX_JOBS];

        // Waiting until the first job has used up its slack serves the most other jobs with it.
        void makeFor(State state, int domain) {
            JobTable jobs = state.jobs;
            int open = jobs.waiting[domain];
            count = 0;
            while (open != 0 && count < MAX_JOBS) {
                int tick = Math.max(jobs.leastSlackEnd(open), state.clock);
                ticks[count] = tick;
                served[count] = jobs.releasedBy(tick, open);
                open &= ~served[count];
                count++;
            }
        }
    }

    /** Finds the least energy of a core that may change its level in each tick. */
    private static final class TickMixer {
        static final int UNREACHABLE = 1000000000;

        // At each amount of work, the least energy of the ticks so far that do at least so much.
        private final int[] least = new int[MAX_MIXED_WORK + 1];

        int leastEnergy(Setup setup, int domain, int work, int window) {
            if (work >= least.length) {
                return REFUSED;
            }
            least[0] = 0;
            for (int amount = 1; amount <= work; amount++) {
                least[amount] = UNREACHABLE;
            }
            for (int tick = 0; tick < window; tick++) {
                addTick(setup, domain, work);
            }
            return least[work] < UNREACHABLE ? least[work] : REFUSED;
        }

        // Downwards, so that the smaller amounts still stand as they were before this tick.
        private void addTick(Setup setup, int domain, int work) {
            int idlePower = setup.idlePowers[domain];
            int first = domain * MAX_LEVELS;
            int end = first + setup.levelCounts[domain];
            for (int amount = work; amount >= 0; amount--) {
                int energy = least[amount] + idlePower;
                for (int at = first; at < end; at++) {
                    int before = Math.max(0, amount - setup.frequencies[at]);
                    energy = Math.min(energy, least[before] + setup.powers[at]);
                }
                least[amount] = Math.min(energy, UNREACHABLE);
            }
        }
    }
}
