/** Promises 35 to 37: racing and pacing. */
public final class PacingTest {
    private static final Check CHECK = new Check("PacingTest");

    public static void main(String[] args) {
        levelEnergy();
        bestLevel();
        mixedEnergy();
        mixedEnergyAtTheEnds();
        withoutTemperaturesAndCredits();
        CHECK.end();
    }

    private static void levelEnergy() {
        ThermalCoreScheduler x = Check.loaded("system 0;domain 2 0 999 1 5 0 0 max;level 10 50;level 20 200;"
                + "domain 4 0 0 1 99 0 0 max;level 1 999;level 999 7;");
        CHECK.same("50 in 10 ticks at level 0", x.levelEnergy(0, 0, 50, 10), 5 * 50 + 5 * 5);
        CHECK.same("50 in 10 ticks at level 1", x.levelEnergy(0, 1, 50, 10), 3 * 200 + 7 * 5);
        CHECK.same("51 in 10 ticks at level 0", x.levelEnergy(0, 0, 51, 10), 6 * 50 + 4 * 5);
        CHECK.same("the window is just enough", x.levelEnergy(0, 0, 50, 5), 250);
        CHECK.same("the window is too small", x.levelEnergy(0, 0, 51, 5), -2);
        CHECK.same("the greatest energy", x.levelEnergy(1, 0, 9999, 9999), 9999 * 999);
        CHECK.same("a tick beyond the window", x.levelEnergy(1, 0, 9999, 9998), -2);
        CHECK.same("one tick of work", x.levelEnergy(1, 1, 999, 9999), 7 + 9998 * 99);
        CHECK.same("two ticks of work", x.levelEnergy(1, 1, 1000, 9999), 14 + 9997 * 99);
    }

    private static void bestLevel() {
        ThermalCoreScheduler x = Check.loaded("system 0;domain 1 0 0 1 5 0 0 max;level 10 50;level 20 200;"
                + "domain 1 0 0 1 10 0 0 max;level 10 30;level 20 50;level 30 80;level 40 81;"
                + "domain 1 0 0 1 0 0 0 max;level 10 30;level 20 60;level 30 90;");
        CHECK.same("pacing", x.bestLevel(0, 50, 10), 0);
        CHECK.same("racing, since pacing takes too long", x.bestLevel(0, 50, 4), 1);
        CHECK.same("nothing is fast enough", x.bestLevel(0, 50, 2), -2);
        CHECK.same("a level between", x.bestLevel(1, 20, 2), 1);
        CHECK.same("the highest level", x.bestLevel(1, 40, 9), 3);
        CHECK.same("all levels alike: the highest", x.bestLevel(2, 60, 6), 2);
        CHECK.same("two levels alike: the higher", x.bestLevel(2, 20, 6), 1);
        CHECK.same("the lowest, the others costing more", x.bestLevel(2, 5, 6), 0);
    }

    private static void mixedEnergy() {
        ThermalCoreScheduler x = Check.loaded("system 0;domain 1 0 0 1 5 0 0 max;level 10 50;level 20 200;"
                + "domain 1 0 0 1 9 0 0 max;level 3 10;level 5 14;level 7 30;"
                + "domain 1 0 0 1 9 0 0 max;level 3 4;level 5 20;");
        CHECK.same("three slow ticks, one fast", x.mixedEnergy(0, 50, 4), 350);
        CHECK.same("50 in 5 ticks", x.mixedEnergy(0, 50, 5), 250);
        CHECK.same("50 in 6 ticks", x.mixedEnergy(0, 50, 6), 255);
        CHECK.same("80 in 4 ticks", x.mixedEnergy(0, 80, 4), 800);
        CHECK.same("81 in 4 ticks", x.mixedEnergy(0, 81, 4), -2);
        CHECK.same("more than needed", x.mixedEnergy(0, 1, 1), 50);
        CHECK.same("11: 5 + 3 + 3", x.mixedEnergy(1, 11, 3), 34);
        CHECK.same("11 in 2 ticks: 5 + 7", x.mixedEnergy(1, 11, 2), 44);
        CHECK.same("12 in 4 ticks: 3 + 3 + 3 + 3 or 5 + 5 + 3 and idle", x.mixedEnergy(1, 12, 4), 40);
        CHECK.same("13 in 4 ticks", x.mixedEnergy(1, 13, 4), 44);
        CHECK.same("9 in 10 ticks", x.mixedEnergy(1, 9, 10), 3 * 10 + 7 * 9);
        // A level that costs less than idling may be kept when the work is done.
        CHECK.same("3 in 3 ticks", x.mixedEnergy(2, 3, 3), 12);
        CHECK.same("8 in 2 ticks", x.mixedEnergy(2, 8, 2), 24);
    }

    private static void mixedEnergyAtTheEnds() {
        ThermalCoreScheduler x = Check.loaded("system 0;domain 1 0 0 1 99 0 0 max;level 5 999;"
                + "domain 1 0 0 1 0 0 0 max;level 1 1;level 500 900;domain 1 0 0 1 1 0 0 max;level 999 2;");
        CHECK.same("500 in 100 ticks", x.mixedEnergy(0, 500, 100), 99900);
        CHECK.same("500 in 99 ticks", x.mixedEnergy(0, 500, 99), -2);
        CHECK.same("495 in 100 ticks", x.mixedEnergy(0, 495, 100), 99 * 999 + 99);
        CHECK.same("500 in 100 ticks, with one fast tick", x.mixedEnergy(1, 500, 100), 900);
        CHECK.same("100 in 100 ticks", x.mixedEnergy(1, 100, 100), 100);
        CHECK.same("101 in 100 ticks", x.mixedEnergy(1, 101, 100), 900);
        CHECK.same("1 in 1 tick", x.mixedEnergy(2, 1, 1), 2);
        CHECK.same("500 in 1 tick", x.mixedEnergy(2, 500, 1), 2);
        CHECK.same("500 in 2 ticks", x.mixedEnergy(2, 500, 2), 3);
    }

    private static void withoutTemperaturesAndCredits() {
        ThermalCoreScheduler x = Check.loaded("system 0;domain 1 0 999 1 5 0 0 min;level 10 50;level 20 60;");
        x.addJob(0, 0, 0, 0, 999, 9);
        x.tick(3);
        String before = Picture.of(x);
        CHECK.same("levelEnergy of a hot domain", x.levelEnergy(0, 1, 20, 2), 65);
        CHECK.same("bestLevel of a hot domain", x.bestLevel(0, 20, 2), 1);
        CHECK.same("mixedEnergy of a hot domain", x.mixedEnergy(0, 20, 2), 65);
        CHECK.same("the picture", Picture.of(x), before);
    }
}
