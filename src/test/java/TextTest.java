/** Promises 1 to 5: a new object, append, truncate, load and errorPosition. */
public final class TextTest {
    private static final Check CHECK = new Check("TextTest");
    private static final String SYSTEM = "system 100;";
    private static final String DOMAIN = "domain 2 1000 100 100 5 0 2 race;";
    private static final String LEVEL = "level 10 50;";

    public static void main(String[] args) {
        newObject();
        appending();
        truncating();
        correctTexts();
        wrongTokens();
        wrongNumbers();
        tooMany();
        leastPosition();
        failedLoadKeepsTheSystem();
        loadReplacesTheSystem();
        CHECK.end();
    }

    private static void newObject() {
        ThermalCoreScheduler x = new ThermalCoreScheduler();
        CHECK.same("NONE", ThermalCoreScheduler.NONE, -1);
        CHECK.same("errorPosition() at first", x.errorPosition(), -1);
        CHECK.argument("truncate(1) at first", () -> x.truncate(1));
        CHECK.same("truncate(0) at first", x.truncate(0), 0);
        CHECK.state("clock() at first", () -> x.clock());
    }

    private static void appending() {
        ThermalCoreScheduler x = new ThermalCoreScheduler();
        for (int i = 1; i <= 25; i++) {
            CHECK.same("append " + i, x.append(0x20202020, 0x20202020, 0x20202020, 0x20202020, 0x20202020), 20 * i);
        }
        CHECK.state("append to 520", () -> x.append(1, 2, 3, 4, 5));
        CHECK.same("truncate(500) of the full buffer", x.truncate(500), 500);
        CHECK.same("truncate(481)", x.truncate(481), 481);
        CHECK.state("append to 501", () -> x.append(1, 2, 3, 4, 5));
        CHECK.argument("truncate(482) after it", () -> x.truncate(482));
        CHECK.same("truncate(480)", x.truncate(480), 480);
        CHECK.same("append to 500", x.append(0, 0, 0, 0, 0), 500);
        CHECK.same("load of zero bytes", x.load(), -11);
        CHECK.same("the first zero byte", x.errorPosition(), 480);

        // The bytes 'syst' 'em 1' ';' and blanks, then bytes whose highest bit is set.
        CHECK.same("append of bytes", x.append(0x73797374, 0x656d2031, 0x3b202020, 0x20200aff, 0xffffffff), 20);
        CHECK.same("load of high bytes", x.load(), -11);
        CHECK.same("the first high byte", x.errorPosition(), 15);

        byte[] order = "system 7;domain 1 5 6 7 8 0 9 min;\nlevel 1 2;   ".getBytes();
        Check.write(x, new String(order));
        CHECK.same("load of a text in order", x.load(), 1);
        CHECK.same("its ambient temperature", x.setAmbient(1), 7);
    }

    private static void truncating() {
        ThermalCoreScheduler x = new ThermalCoreScheduler();
        Check.write(x, SYSTEM + DOMAIN + LEVEL + "zzz");
        int length = (SYSTEM + DOMAIN + LEVEL).length();
        CHECK.argument("truncate(-1)", () -> x.truncate(-1));
        CHECK.argument("truncate(MIN)", () -> x.truncate(Integer.MIN_VALUE));
        CHECK.argument("truncate(MAX)", () -> x.truncate(Integer.MAX_VALUE));
        CHECK.argument("truncate(length + 1)", () -> x.truncate(length + 4));
        CHECK.same("truncate to the present length", x.truncate(length + 3), length + 3);
        CHECK.same("truncate(length)", x.truncate(length), length);
        CHECK.same("load of the truncated text", x.load(), 1);
        CHECK.argument("truncate(1) after load", () -> x.truncate(1));
    }

    private static void text(String text, int due, int position) {
        ThermalCoreScheduler x = new ThermalCoreScheduler();
        CHECK.same("load of " + text, Check.load(x, text), due);
        CHECK.same("errorPosition of " + text, x.errorPosition(), position);
        CHECK.same("truncate(0) after " + text, x.truncate(0), 0);
        CHECK.argument("truncate(1) after " + text, () -> x.truncate(1));
        if (due < 0) {
            CHECK.state("clock() after " + text, () -> x.clock());
        } else {
            CHECK.same("clock() after " + text, x.clock(), 0);
        }
    }

    private static void correctTexts() {
        text("system 0;domain 1 0 0 1 0 0 0 max;level 1 0;", 1, -1);
        text("system0;domain1 0 0 1 0 0 0max;level1 0;", 1, -1);
        text(" \n system\n00000 ;\n\n domain 1 0 0 1 0 0 0 max\n; level 1 0 ; \n", 1, -1);
        text("system 9999;domain 4 99999 999 999 99 4 99 min;level 999 999;", 1, -1);
        StringBuilder full = new StringBuilder("system 9999;");
        for (int i = 0; i < 4; i++) {
            full.append("domain 4 99999 999 999 99 4 99 demand;");
            full.append("level 995 999;level 996 999;level 997 999;level 998 999;level 999 999;");
        }
        text(full.toString(), 4, -1);
        text(full + " ".repeat(500 - full.length()), 4, -1);
        // A domain's frequencies begin anew.
        text(SYSTEM + DOMAIN + "level 20 1;" + DOMAIN + "level 10 1;", 2, -1);
        int number = 0;
        for (String policy : new String[] {"max", "min", "demand", "race"}) {
            ThermalCoreScheduler x = Check.loaded("system 5;domain 1 9 9 9 9 4 9 " + policy + ";level 3 3;level 4 4;");
            CHECK.same("the policy " + policy, x.domainValue(0, 5), number++);
            CHECK.same("a base level above the highest", x.domainValue(0, 8), 1);
        }
    }

    private static void wrongTokens() {
        text("", -11, 0);
        text("   ", -11, 3);
        text("\n", -11, 1);
        text("System 1;", -11, 0);
        text("systems 1;", -11, 0);
        text("syste 1;", -11, 0);
        text("sysdem 1;", -11, 0);
        text("zystem 1;", -11, 0);
        text("systemz 1;", -11, 0);
        text("100;", -11, 0);
        text(";", -11, 0);
        text("domain 1 0 0 1 0 0 0 max;level 1 0;", -11, 0);
        text("system", -11, 6);
        text("system 1", -11, 8);
        text("system 1  ", -11, 10);
        text("system ;", -11, 7);
        text("system a;", -11, 7);
        text("system -1;", -11, 7);
        text("system 1 domain", -11, 9);
        text("system 1 2;", -11, 9);
        text("system 1\t;", -11, 8);
        text("system 1\r\n;", -11, 8);
        text("system 123456;", -11, 7);
        text("system 000001;", -11, 7);
        text("system 12345678901234567890;", -11, 7);
        text(SYSTEM, -11, 11);
        text(SYSTEM + ";", -11, 11);
        text("system 100;;" + DOMAIN + LEVEL, -11, 11);
        text(SYSTEM + "level 1 1;", -11, 11);
        text(SYSTEM + SYSTEM, -11, 11);
        text(SYSTEM + DOMAIN, -11, 44);
        text(SYSTEM + DOMAIN + " \n", -11, 46);
        text(SYSTEM + DOMAIN + DOMAIN, -11, 44);
        text(SYSTEM + DOMAIN + "levels 1 1;", -11, 44);
        text(SYSTEM + DOMAIN + "revel 1 1;", -11, 44);
        text(SYSTEM + DOMAIN + LEVEL + "revel 11 1;", -11, 56);
        text(SYSTEM + DOMAIN + LEVEL + "romain 1 1 1 1 1 1 1 max;", -11, 56);
        text(SYSTEM + DOMAIN + LEVEL + SYSTEM, -11, 56);
        text(SYSTEM + DOMAIN + LEVEL + ";", -11, 56);
        text(SYSTEM + DOMAIN + LEVEL + "7", -11, 56);
        text(SYSTEM + DOMAIN + LEVEL + "x", -11, 56);
        text(SYSTEM + DOMAIN + LEVEL + (char) 0, -11, 56);
        text(SYSTEM + DOMAIN + "level 1;", -11, 51);
        text(SYSTEM + DOMAIN + "level 1 1 1;", -11, 54);
        text(SYSTEM + DOMAIN + "level 1 1", -11, 53);
        text(SYSTEM + "domain 2 1000 100 100 5 0 2;", -11, 38);
        text(SYSTEM + "domain 2 1000 100 100 5 0 2 maxx;", -11, 39);
        text(SYSTEM + "domain 2 1000 100 100 5 0 2 ma;", -11, 39);
        text(SYSTEM + "domain 2 1000 100 100 5 0 2 maxz;", -11, 39);
        text(SYSTEM + "domain 2 1000 100 100 5 0 2 face;", -11, 39);
        text(SYSTEM + "domain 2 1000 100 100 5 0 2 level;", -11, 39);
        text(SYSTEM + "domain 2 1000 100 100 5 0 2 3;", -11, 39);
        text(SYSTEM + "domain 2 1000 100 100 5 0 max;", -11, 37);
        text(SYSTEM + "domain 2 1000 100 100 5 0 2 max level", -11, 43);
        text(SYSTEM + "domain 2 100000 100 100 5 0 2 max;", -11, 20);
    }

    /** Each number of a statement at its ends, and beyond them. */
    private static void wrongNumbers() {
        range("system ", 0, 9999, ";" + DOMAIN + LEVEL);
        range(SYSTEM + "domain ", 1, 4, " 1000 100 100 5 0 2 race;" + LEVEL);
        range(SYSTEM + "domain 2 ", 0, 99999, " 100 100 5 0 2 race;" + LEVEL);
        range(SYSTEM + "domain 2 1000 ", 0, 999, " 100 5 0 2 race;" + LEVEL);
        range(SYSTEM + "domain 2 1000 100 ", 1, 999, " 5 0 2 race;" + LEVEL);
        range(SYSTEM + "domain 2 1000 100 100 ", 0, 99, " 0 2 race;" + LEVEL);
        range(SYSTEM + "domain 2 1000 100 100 5 ", 0, 4, " 2 race;" + LEVEL);
        range(SYSTEM + "domain 2 1000 100 100 5 0 ", 0, 99, " race;" + LEVEL);
        range(SYSTEM + DOMAIN + "level ", 1, 999, " 50;");
        range(SYSTEM + DOMAIN + "level 10 ", 0, 999, ";");
        range(SYSTEM + DOMAIN + LEVEL + "level ", 11, 999, " 50;");
        range(SYSTEM + DOMAIN + LEVEL + "level 20 1;level ", 21, 999, " 50;");
        text(SYSTEM + DOMAIN + "level 999 1;level 999 1;", -12, 62);
    }

    private static void range(String before, int least, int greatest, String behind) {
        text(before + least + behind, 1, -1);
        text(before + greatest + behind, 1, -1);
        if (least > 0) {
            text(before + (least - 1) + behind, -12, before.length());
        }
        if (greatest < 99999) {
            text(before + (greatest + 1) + behind, -12, before.length());
            text(before + 99999 + behind, -12, before.length());
        }
    }

    private static void tooMany() {
        String domain = "domain 1 1 1 1 1 1 1 max;level 1 1;";
        String four = SYSTEM + domain + domain + domain + domain;
        text(four, 4, -1);
        text(four + "domain", -13, four.length());
        text(four + " \ndomain 9 9", -13, four.length() + 2);
        text(four + "domains", -11, four.length());
        text(four + ";", -11, four.length());
        String bare = SYSTEM + domain + domain + domain + "domain 1 1 1 1 1 1 1 max;";
        text(bare + "domain", -11, bare.length());
        String five = SYSTEM + DOMAIN + "level 1 1;level 2 1;level 3 1;level 4 1;level 5 1;";
        text(five, 1, -1);
        text(five + "level", -13, five.length());
        text(five + " level 3 3;", -13, five.length() + 1);
        text(five + "levels", -11, five.length());
        text(five + domain, 2, -1);
        text(five + domain + "level 1 1;", -12, five.length() + domain.length() + 6);
    }

    private static void leastPosition() {
        text("system 10000 x $", -12, 7);
        text("system 10000$", -12, 7);
        text("system 1 $ 123456", -11, 9);
        text(SYSTEM + "domain 5 100000", -12, 18);
        text(SYSTEM + DOMAIN + "level 0 5000;", -12, 50);
        text(SYSTEM + DOMAIN + "level 5 5000;level 1 1;", -12, 52);
    }

    private static void failedLoadKeepsTheSystem() {
        ThermalCoreScheduler x = Check.loaded(SYSTEM + DOMAIN + LEVEL);
        x.addJob(0, 3, 0, 0, 100, 50);
        x.tick(2);
        CHECK.same("a wrong load", Check.load(x, "system 1;domain 3 1 1 1 1 1 1 min;level 1 1;level 1"), -12);
        CHECK.same("errorPosition after it", x.errorPosition(), 50);
        CHECK.same("clock after it", x.clock(), 2);
        CHECK.same("cores after it", x.domainValue(0, 7), 2);
        CHECK.same("levels after it", x.domainValue(0, 6), 1);
        CHECK.same("remaining work after it", x.jobValue(0, 6), 80);
        CHECK.same("errorPosition is kept", x.errorPosition(), 50);
        CHECK.same("undo after it", x.undo(), 1);
        CHECK.same("errorPosition is not undone", x.errorPosition(), 50);
        CHECK.same("the next append", x.append(0, 0, 0, 0, 0), 20);
    }

    private static void loadReplacesTheSystem() {
        ThermalCoreScheduler x = Check.loaded(SYSTEM + DOMAIN + LEVEL + "level 30 90;" + DOMAIN + LEVEL);
        x.addJob(0, 3, 0, 0, 25, 50);
        x.addJob(0, 3, 0, 0, 5, 50);
        x.addJob(0, 2, 0, 0, 500, 50);
        x.addJob(1, 3, 9, 90, 100, 50);
        x.setLimit(0, 130);
        x.setPolicy(0, 2);
        x.setAmbient(1000);
        x.tick(3);
        CHECK.same("load once more", Check.load(x, "system 20;domain 3 70 9 9 1 0 5 min;level 4 6;"), 1);
        CHECK.same("errorPosition", x.errorPosition(), -1);
        CHECK.same("undo after load", x.undo(), -2);
        CHECK.same("clock after load", x.clock(), 0);
        CHECK.same("jobs after load", x.jobCount(), 0);
        CHECK.argument("domain 1 after load", () -> x.temperature(1));
        CHECK.same("temperature after load", x.temperature(0), 20);
        CHECK.same("level after load", x.level(0), 0);
        CHECK.same("energy after load", x.energy(0), 0);
        int[] due = {5, 0, 0, 0, 70, 1, 1, 3, 0};
        for (int what = 0; what < due.length; what++) {
            CHECK.same("domainValue(0, " + what + ") after load", x.domainValue(0, what), due[what]);
        }
        for (int core = 0; core < 3; core++) {
            CHECK.same("jobOn(0, " + core + ") after load", x.jobOn(0, core), -2);
        }
        CHECK.same("estimate after load", x.estimate(3), 0);
        CHECK.arithmetic("deviation after load", () -> x.deviation(3));
        CHECK.same("lateJobs after load", x.lateJobs(), 0);
        CHECK.same("packedWakeUps after load", x.packedWakeUps(0), 0);
        CHECK.same("ambient after load", x.setAmbient(3), 20);
    }
}
