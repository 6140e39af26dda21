/** Promises 10 to 13: startAt, addInput, dropInputs, playTo. */
public final class StartAndInputsTest {
    private static final Checks CHECKS = new Checks();

    public static void main(String[] args) {
        starting();
        wrongStarts();
        adding();
        dropping();
        playing();
        CHECKS.end();
    }

    private static Corridor corridor() {
        return new Corridor().sector(0, 100, 9, 0, 1).sector(8, 40, 9, 0, 2).wall(50, 0, 1, 1, 0).solid(-100, 0);
    }

    private static void due(SectorView view, String what, int... walker) {
        for (int i = 0; i < walker.length; i++) {
            CHECKS.due(what + ": walkerOf(" + i + ")", view.walkerOf(i), walker[i]);
        }
    }

    private static void starting() {
        SectorView view = corridor().view();
        view.addInput(1, 2, 3, false);
        view.stepBy(20, 0, 0, true);
        CHECKS.due("a door goes", view.lookAt(11), 1);
        CHECKS.due("a door goes", view.sectorOf(1, 1), 48);
        CHECKS.due("startAt", view.startAt(-32768, 32767, 63, 1), true);
        due(view, "startAt", -32768, 32767, 63, 1, 49, 0);
        CHECKS.due("nothing moves", view.lookAt(11), 0);
        CHECKS.due("as the map says", view.sectorOf(1, 1), 40);
        CHECKS.due("the run stays", view.lookAt(4), 1);
        view.stepBy(0, 0, 1, false);
        view.playTo(0);
        due(view, "from there on", -32768, 32767, 63, 1, 49, 0);
        CHECKS.due("startAt", view.startAt(32767, -32768, 0, 0), true);
        due(view, "startAt", 32767, -32768, 0, 0, 41, 0);
    }

    private static void wrongStarts() {
        SectorView view = corridor().view();
        view.startAt(5, 6, 7, 1);
        view.stepBy(0, 0, 1, false);
        int[][] wrong = {{-32769, 0, 0, 0}, {32768, 0, 0, 0}, {0, -32769, 0, 0}, {0, 32768, 0, 0}, {0, 0, -1, 0},
            {0, 0, 64, 0}, {0, 0, 0, -1}, {0, 0, 0, 2}, {0, 0, 0, 255}, {Integer.MIN_VALUE, 0, 0, 0},
            {0, Integer.MAX_VALUE, 0, 0}};
        for (int[] w : wrong) {
            CHECKS.due("startAt", view.startAt(w[0], w[1], w[2], w[3]), false);
            due(view, "nothing changed", 5, 6, 8, 1, 49, 1);
        }
        view.playTo(0);
        due(view, "START neither", 5, 6, 7, 1, 49, 0);
    }

    private static void adding() {
        SectorView view = corridor().view();
        int[][] wrong = {{65, 0, 0}, {-65, 0, 0}, {0, 65, 0}, {0, -65, 0}, {0, 0, 17}, {0, 0, -17},
            {Integer.MIN_VALUE, 0, 0}, {0, Integer.MAX_VALUE, 0}, {0, 0, Integer.MIN_VALUE}};
        for (int[] w : wrong) {
            CHECKS.due("addInput", view.addInput(w[0], w[1], w[2], true), -1);
            CHECKS.due("stepBy", view.stepBy(w[0], w[1], w[2], true), -1);
        }
        due(view, "nothing moved", 0, 0, 0, 0, 41, 0);
        CHECKS.due("lookAt(4)", view.lookAt(4), 0);
        CHECKS.due("addInput", view.addInput(64, 64, 16, true), 1);
        CHECKS.due("addInput", view.addInput(-64, -64, -16, false), 2);
        due(view, "nothing moves", 0, 0, 0, 0, 41, 0);
        for (int i = 3; i <= 1024; i++) {
            CHECKS.due("addInput", view.addInput(0, 0, 0, false), i);
        }
        CHECKS.due("addInput", view.addInput(0, 0, 0, false), -1);
        CHECKS.due("lookAt(4)", view.lookAt(4), 1024);
        CHECKS.due("playTo(1024)", view.playTo(1024), 1);
        CHECKS.due("ticks", view.walkerOf(5), 1024);
        CHECKS.due("playTo(1025)", view.playTo(1025), -1);
    }

    private static void dropping() {
        SectorView view = corridor().view();
        for (int i = 0; i < 5; i++) {
            view.addInput(i, 0, 0, false);
        }
        view.playTo(5);
        int x = view.walkerOf(0);
        CHECKS.due("dropInputs(6)", view.dropInputs(6), false);
        CHECKS.due("dropInputs(-1)", view.dropInputs(-1), false);
        CHECKS.due("dropInputs(least)", view.dropInputs(Integer.MIN_VALUE), false);
        CHECKS.due("lookAt(4)", view.lookAt(4), 5);
        CHECKS.due("dropInputs(0)", view.dropInputs(0), true);
        CHECKS.due("dropInputs(2)", view.dropInputs(2), true);
        CHECKS.due("lookAt(4)", view.lookAt(4), 3);
        CHECKS.due("the walker stays", view.walkerOf(0), x);
        CHECKS.due("playTo(4)", view.playTo(4), -1);
        CHECKS.due("playTo(3)", view.playTo(3), 0);
        CHECKS.due("0 + 1 + 2", view.walkerOf(0), 3);
        CHECKS.due("addInput", view.addInput(10, 0, 0, false), 4);
        view.playTo(4);
        CHECKS.due("the new one counts", view.walkerOf(0), 13);
        CHECKS.due("dropInputs(4)", view.dropInputs(4), true);
        CHECKS.due("lookAt(4)", view.lookAt(4), 0);
    }

    private static void playing() {
        SectorView view = corridor().view();
        view.startAt(-50, 0, 32, 0);
        view.addInput(30, 0, 0, false);
        view.addInput(30, 0, 0, false);
        view.addInput(0, 0, 1, false);
        view.addInput(30, 0, -1, false);
        view.addInput(10, 0, 0, true);
        CHECKS.due("playTo(-1)", view.playTo(-1), -1);
        CHECKS.due("playTo(6)", view.playTo(6), -1);
        due(view, "nothing changed", -50, 0, 32, 0, 41, 0);
        CHECKS.due("playTo(1)", view.playTo(1), 0);
        due(view, "playTo(1)", -80, 0, 32, 0, 41, 1);
        CHECKS.due("playTo(2)", view.playTo(2), 1);
        due(view, "playTo(2)", -80, 0, 32, 0, 41, 2);
        CHECKS.due("playTo(3)", view.playTo(3), 1);
        due(view, "playTo(3)", -80, 0, 33, 0, 41, 3);
        CHECKS.due("playTo(4)", view.playTo(4), 2);
        due(view, "playTo(4)", -80, 0, 32, 0, 41, 4);
        CHECKS.due("playTo(5)", view.playTo(5), 2);
        due(view, "playTo(5)", -90, 0, 32, 0, 41, 5);
        CHECKS.due("the same again", view.playTo(5), 2);
        due(view, "the same again", -90, 0, 32, 0, 41, 5);
        view.stepBy(-40, 0, 3, false);
        CHECKS.due("back again", view.playTo(2), 1);
        due(view, "back again", -80, 0, 32, 0, 41, 2);
        CHECKS.due("playTo(0)", view.playTo(0), 0);
        due(view, "playTo(0)", -50, 0, 32, 0, 41, 0);
    }
}
