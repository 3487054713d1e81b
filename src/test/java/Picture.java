/** Everything that can be asked of a scheduler without changing it, as one text to compare. */
final class Picture {
    private Picture() {
    }

    static String of(ThermalCoreScheduler x) {
        return "error " + x.errorPosition() + ' ' + withoutErrorPosition(x);
    }

    static String withoutErrorPosition(ThermalCoreScheduler x) {
        StringBuilder s = new StringBuilder();
        s.append("clock ").append(Check.answer(() -> x.clock()));
        s.append(" jobs ").append(Check.answer(() -> x.jobCount()));
        s.append(" late ").append(Check.answer(() -> x.lateJobs()));
        s.append(" over ").append(Check.answer(() -> x.allOver()));
        s.append(" will be late ").append(Check.answer(() -> x.willBeLate()));
        // What a tick needs of the ambient temperature shows in the peaks and energies to come.
        s.append(" energy to come ").append(Check.answer(() -> x.energyIn(40)));
        for (int kind = 0; kind < 8; kind++) {
            int k = kind;
            s.append("\nkind ").append(k).append(' ').append(Check.answer(() -> x.estimate(k)));
            s.append(' ').append(Check.answer(() -> x.deviation(k)));
        }
        for (int domain = 0; domain < 4; domain++) {
            addDomain(s, x, domain);
        }
        for (int job = 0; job < 24; job++) {
            int j = job;
            s.append("\njob ").append(j).append(' ').append(Check.answer(() -> x.doneAt(j)));
            s.append(' ').append(Check.answer(() -> x.willBeDone(j)));
            for (int what = 0; what < 8; what++) {
                int w = what;
                s.append(' ').append(Check.answer(() -> x.jobValue(j, w)));
            }
        }
        return s.toString();
    }

    private static void addDomain(StringBuilder s, ThermalCoreScheduler x, int d) {
        s.append("\ndomain ").append(d).append(' ').append(Check.answer(() -> x.temperature(d)));
        s.append(' ').append(Check.answer(() -> x.level(d)));
        s.append(' ').append(Check.answer(() -> x.energy(d)));
        s.append(' ').append(Check.answer(() -> x.meanPower(d)));
        s.append(' ').append(Check.answer(() -> x.throttleOrder(d)));
        s.append(' ').append(Check.answer(() -> x.peak(d, 40)));
        s.append(' ').append(Check.answer(() -> x.nextThrottle(d)));
        s.append(' ').append(Check.answer(() -> x.bestPolicy(d)));
        s.append(' ').append(Check.answer(() -> x.coolLimit(d)));
        s.append(' ').append(Check.answer(() -> x.packedWakeUps(d)));
        s.append(' ').append(Check.answer(() -> x.packedTick(d, 0)));
        s.append(' ').append(Check.answer(() -> x.packedJobs(d, 0)));
        for (int what = 0; what < 9; what++) {
            int w = what;
            s.append(' ').append(Check.answer(() -> x.domainValue(d, w)));
        }
        for (int core = 0; core < 4; core++) {
            int c = core;
            s.append(' ').append(Check.answer(() -> x.jobOn(d, c)));
        }
        for (int place = 0; place < 24; place++) {
            int p = place;
            s.append(' ').append(Check.answer(() -> x.queued(d, p)));
        }
    }
}
