import java.util.ArrayList;
import java.util.List;

/** Promise 41: undo. */
public final class UndoTest {
    private static final Check CHECK = new Check("UndoTest");
    private static final String TEXT = "system 100;domain 2 400 100 300 5 0 3 race;level 10 50;level 20 200;"
            + "domain 1 160 50 50 2 1 0 demand;level 5 10;level 10 40;level 20 100;";

    public static void main(String[] args) {
        nothingToUndo();
        eachAction();
        latestTen();
        anyNumberOfActions();
        actionsBetweenUndos();
        undoneOnesAreGone();
        textIsNotUndone();
        CHECK.end();
    }

    private static void nothingToUndo() {
        ThermalCoreScheduler x = new ThermalCoreScheduler();
        CHECK.state("undo() without a system", () -> x.undo());
        Check.load(x, TEXT);
        CHECK.same("undo() of nothing", x.undo(), -2);
        x.setAmbient(100);
        CHECK.same("undo() of an action that changed nothing", x.undo(), 0);
        CHECK.same("undo() of nothing", x.undo(), -2);
    }

    /** Does the action with this number; -2 if it was refused. */
    private static int act(ThermalCoreScheduler x, int number) {
        switch (number) {
            case 0:
                return x.addJob(0, 1, 1, 2, 90, 6);
            case 1:
                return x.addJob(1, 1, 0, 0, 60, 6);
            case 2:
                return x.tick(3);
            case 3:
                return x.setPolicy(1, 3);
            case 4:
                return x.setLimit(0, 300);
            case 5:
                return x.tick(4);
            case 6:
                return x.setAmbient(50);
            case 7:
                return x.cancelJob(0);
            case 8:
                return x.addJob(1, 1, 0, 0, 30, 6);
            default:
                return x.tick(100);
        }
    }

    private static void eachAction() {
        ThermalCoreScheduler x = Check.loaded(TEXT);
        List<String> pictures = new ArrayList<>();
        for (int i = 0; i < 10; i++) {
            pictures.add(Picture.of(x));
            CHECK.same("action " + i + " is taken", act(x, i) >= 0, true);
            CHECK.same("action " + i + " changes the picture", Picture.of(x).equals(pictures.get(i)), false);
        }
        for (int i = 9; i >= 0; i--) {
            CHECK.same("undo() of action " + i, x.undo(), i);
            CHECK.same("the picture before action " + i, Picture.of(x), pictures.get(i));
        }
        CHECK.same("undo() of nothing", x.undo(), -2);
        CHECK.same("the picture at the end", Picture.of(x), pictures.get(0));
    }

    private static void latestTen() {
        ThermalCoreScheduler x = Check.loaded(TEXT);
        for (int i = 1; i <= 23; i++) {
            x.setLimit(0, i);
        }
        for (int i = 9; i >= 0; i--) {
            CHECK.same("undo() of the latest ten", x.undo(), i);
            CHECK.same("the limit", x.domainValue(0, 4), 13 + i);
        }
        CHECK.same("undo() of the eleventh", x.undo(), -2);
        CHECK.same("the limit stays", x.domainValue(0, 4), 13);
    }

    private static void anyNumberOfActions() {
        for (int actions = 0; actions <= 32; actions++) {
            CHECK.about("section 6: the latest 10 actions are remembered, here of " + actions);
            ThermalCoreScheduler x = Check.loaded(TEXT);
            for (int limit = 1; limit <= actions; limit++) {
                CHECK.same("setLimit", x.setLimit(0, limit), limit == 1 ? 400 : limit - 1);
            }
            int kept = Math.min(actions, 10);
            for (int left = kept - 1; left >= 0; left--) {
                CHECK.same("undo()", x.undo(), left);
            }
            CHECK.about("promise 41: -2 if there is no action to undo, here after " + actions);
            int due = actions <= 10 ? 400 : actions - 10;
            CHECK.same("the limit", x.domainValue(0, 4), due);
            CHECK.same("undo()", x.undo(), -2);
            CHECK.same("undo() once more", x.undo(), -2);
            CHECK.same("the limit after it", x.domainValue(0, 4), due);
        }
    }

    private static void actionsBetweenUndos() {
        CHECK.about("promise 41: the latest action that was not undone yet");
        for (int back = 1; back <= 10; back++) {
            ThermalCoreScheduler x = Check.loaded(TEXT);
            for (int limit = 1; limit <= 15; limit++) {
                x.setLimit(0, limit);
            }
            for (int i = 1; i <= back; i++) {
                CHECK.same("undo()", x.undo(), 10 - i);
            }
            for (int limit = 101; limit <= 103; limit++) {
                x.setLimit(0, limit);
            }
            int kept = Math.min(10, 10 - back + 3);
            for (int left = kept - 1; left >= 0; left--) {
                CHECK.same("undo() after three actions", x.undo(), left);
                int undone = kept - left;
                CHECK.same("the limit", x.domainValue(0, 4), undone < 3 ? 103 - undone : 15 - back + 3 - undone);
            }
            CHECK.same("undo() of no action", x.undo(), -2);
        }
    }

    private static void undoneOnesAreGone() {
        CHECK.about("promise 41: an action that was undone does not come back");
        ThermalCoreScheduler x = Check.loaded(TEXT);
        for (int i = 1; i <= 12; i++) {
            x.setLimit(0, i);
        }
        CHECK.same("undo()", x.undo(), 9);
        CHECK.same("undo()", x.undo(), 8);
        x.setLimit(0, 77);
        CHECK.same("undo() of a later action", x.undo(), 8);
        CHECK.same("the limit before it", x.domainValue(0, 4), 10);
        CHECK.same("undo()", x.undo(), 7);
        CHECK.same("the limit before that", x.domainValue(0, 4), 9);
    }

    private static void textIsNotUndone() {
        CHECK.about("promise 41: everything except the text buffer and errorPosition()");
        ThermalCoreScheduler x = Check.loaded(TEXT);
        x.tick(1);
        Check.write(x, "system 1;what");
        x.setAmbient(3);
        CHECK.same("undo()", x.undo(), 1);
        CHECK.same("the buffer is kept", x.truncate(13), 13);
        CHECK.same("load()", x.load(), -11);
        CHECK.same("errorPosition()", x.errorPosition(), 9);
        CHECK.same("undo() after a failed load", x.undo(), 0);
        CHECK.same("errorPosition() is kept", x.errorPosition(), 9);
        CHECK.same("clock()", x.clock(), 0);
        x.tick(1);
        CHECK.same("a correct load", Check.load(x, TEXT), 2);
        CHECK.same("undo() after a correct load", x.undo(), -2);
    }
}
