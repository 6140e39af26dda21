/** Promises 14 and 15: one step, and where it leads. */
public final class StepTest {
    private static final Checks CHECKS = new Checks();
    private static final int NO = MapMaker.NO;

    public static void main(String[] args) {
        turning();
        amounts();
        solidWalls();
        heights();
        lowOpenings();
        ends();
        severalWalls();
        farthest();
        wrongInputs();
        CHECKS.end();
    }

    private static void due(SectorView view, String what, int... walker) {
        for (int i = 0; i < walker.length; i++) {
            CHECKS.due(what + ": walkerOf(" + i + ")", view.walkerOf(i), walker[i]);
        }
    }

    private static SectorView open() {
        return new Corridor().sector(0, 100, 9, 0, 0).view();
    }

    private static void turning() {
        SectorView view = open();
        CHECKS.due("stepBy", view.stepBy(0, 0, -1, false), 0);
        due(view, "a turn below 0", 0, 0, 63, 0, 41, 1);
        CHECKS.due("stepBy", view.stepBy(0, 0, 16, false), 0);
        due(view, "a turn beyond 63", 0, 0, 15, 0, 41, 2);
        CHECKS.due("the turn comes first", view.stepBy(10, 0, 1, false), 1);
        due(view, "ahead is along y", 0, 10, 16, 0, 41, 3);
    }

    private static void amounts() {
        int[][] ways = {{0, 64, 0, 64, 0}, {0, 0, 64, 0, -64}, {16, 64, 0, 0, 64}, {16, 0, 64, 64, 0}, {32, 64, 0, -64, 0},
            {48, 5, 0, 0, -5}, {8, 64, 0, 45, 45}, {8, -64, 0, -46, -46}, {8, 64, 64, 90, 0}, {1, -1, 0, -1, -1},
            {1, 64, 0, 63, 6}, {63, 64, 0, 63, -7}, {5, 10, -3, 7, 7}, {21, 33, 0, -16, 29}, {40, 64, -64, 0, -91}};
        for (int[] w : ways) {
            SectorView view = open();
            view.startAt(0, 0, w[0], 0);
            CHECKS.due("stepBy(" + w[1] + ", " + w[2] + ") at " + w[0], view.stepBy(w[1], w[2], 0, false), 1);
            due(view, "stepBy(" + w[1] + ", " + w[2] + ") at " + w[0], w[3], w[4]);
        }
        SectorView view = open();
        view.startAt(0, 0, 1, 0);
        CHECKS.due("less than 1 each", view.stepBy(1, 0, 0, false), 0);
        due(view, "less than 1 each", 0, 0, 1, 0, 41, 1);
    }

    private static void solidWalls() {
        Corridor corridor = new Corridor().sector(0, 100, 9, 0, 0).solid(50, 0);
        SectorView view = corridor.view();
        CHECKS.due("ahead of it", view.stepBy(49, 0, 0, false), 1);
        CHECKS.due("up to it", view.stepBy(1, 0, 1, true), 0);
        CHECKS.due("up to it", view.stepBy(1, 0, -1, true), 2);
        due(view, "stopped, but it ticks and turns", 49, 0, 0, 0, 41, 3);
        view.startAt(60, 0, 32, 0);
        CHECKS.due("from behind", view.stepBy(20, 0, 0, false), 2);
        due(view, "from behind", 60, 0, 32, 0, 41, 1);
        view.startAt(0, 201, 0, 0);
        CHECKS.due("beside it", view.stepBy(60, 0, 0, false), 1);
        view.startAt(50, 0, 0, 0);
        CHECKS.due("from on it", view.stepBy(60, 0, 0, false), 1);
        due(view, "from on it", 110, 0);
    }

    private static SectorView two(int floor, int ceiling, int otherFloor, int otherCeiling) {
        return new Corridor().sector(floor, ceiling, 9, 0, 0).sector(otherFloor, otherCeiling, 9, 0, 0).wall(30, 0, 1, 0, 0).view();
    }

    private static void heights() {
        SectorView view = two(0, 200, 24, 200);
        CHECKS.due("24 up", view.stepBy(40, 0, 0, false), 1);
        due(view, "24 up", 40, 0, 0, 1, 65, 1);
        CHECKS.due("24 down", view.stepBy(-40, 0, 0, false), 1);
        due(view, "24 down", 0, 0, 0, 0, 41, 2);
        view = two(0, 200, 25, 200);
        CHECKS.due("25 up", view.stepBy(40, 0, 0, false), 2);
        due(view, "25 up", 0, 0, 0, 0, 41, 1);
        view.startAt(40, 0, 0, 1);
        CHECKS.due("25 down", view.stepBy(-40, 0, 0, false), 1);
        due(view, "25 down", 0, 0, 0, 0, 41, 1);
        view = two(0, 200, -900, 200);
        CHECKS.due("900 down", view.stepBy(40, 0, 0, false), 1);
        due(view, "900 down", 40, 0, 0, 1, -859, 1);
        CHECKS.due("900 up", view.stepBy(-40, 0, 0, false), 2);
    }

    private static void lowOpenings() {
        CHECKS.due("56", two(0, 100, 0, 56).stepBy(40, 0, 0, false), 1);
        CHECKS.due("55", two(0, 100, 0, 55).stepBy(40, 0, 0, false), 2);
        CHECKS.due("55 here", two(0, 55, 0, 100).stepBy(40, 0, 0, false), 2);
        CHECKS.due("56 above the step", two(0, 100, 20, 76).stepBy(40, 0, 0, false), 1);
        CHECKS.due("55 above the step", two(0, 100, 20, 75).stepBy(40, 0, 0, false), 2);
        CHECKS.due("55 below the other ceiling", two(0, 75, 20, 200).stepBy(40, 0, 0, false), 2);
        CHECKS.due("56 down", two(0, 100, -50, 56).stepBy(40, 0, 0, false), 1);
        CHECKS.due("55 down", two(0, 100, -50, 55).stepBy(40, 0, 0, false), 2);
    }

    private static void ends() {
        SectorView view = two(0, 200, 5, 200);
        CHECKS.due("just onto the wall", view.stepBy(30, 0, 0, false), 1);
        due(view, "R of 1 counts", 30, 0, 0, 1, 46, 1);
        CHECKS.due("on from it", view.stepBy(30, 0, 0, false), 1);
        due(view, "R of 0 does not", 60, 0, 0, 1, 46, 2);
        MapMaker close = new MapMaker().texture(0, 0, 0).sector(0, 99, 0, 0, 0, 0, 0).sector(3, 99, 0, 0, 0, 0, 0)
            .vertex(1, 1).vertex(0, -1).plainWall(0, 1, 0, 1, 0, 0);
        view = Give.withMap(close);
        CHECKS.due("from half a place ahead of it", view.stepBy(1, 0, 0, false), 1);
        due(view, "P is -1", 1, 0, 0, 1, 44, 1);
        view = two(0, 200, 5, 200);
        view.stepBy(29, 0, 0, false);
        due(view, "just ahead of it", 29, 0, 0, 0, 41, 1);
        view.startAt(0, 200, 0, 0);
        CHECKS.due("by its upper end", view.stepBy(40, 0, 0, false), 1);
        due(view, "a is 0, b below 0", 40, 200, 0, 1);
        view.startAt(0, -200, 0, 0);
        CHECKS.due("by its lower end", view.stepBy(40, 0, 0, false), 1);
        due(view, "neither is below 0", 40, -200, 0, 0);
    }

    private static void severalWalls() {
        Corridor corridor = new Corridor().sector(0, 200, 9, 0, 0).sector(5, 200, 9, 0, 0).sector(7, 200, 9, 0, 0).sector(9, 200, 9, 0, 0)
            .wall(30, 1, 2, 0, 0).wall(20, 0, 1, 0, 0).wall(60, 3, 0, 0, 0);
        SectorView view = corridor.view();
        CHECKS.due("two walls", view.stepBy(40, 0, 0, false), 1);
        due(view, "the last one's far", 40, 0, 0, 2, 48, 1);
        CHECKS.due("one more", view.stepBy(40, 0, 0, false), 1);
        due(view, "whatever the map says", 80, 0, 0, 0, 41, 2);
        CHECKS.due("back over one", view.stepBy(-40, 0, 0, false), 1);
        due(view, "from its back, front is far", 40, 0, 0, 3, 50, 3);
        corridor.map.plainWall(0, 2, 0, NO, 0, 0);
        view = corridor.view();
        view.startAt(15, 0, 0, 0);
        CHECKS.due("beside one that is across at the end", view.stepBy(40, 0, 0, false), 1);
        view.startAt(25, 180, 16, 1);
        CHECKS.due("one that stops is enough", view.stepBy(40, 0, 0, false), 2);
        due(view, "not even up to it", 25, 180, 16, 1, 46, 1);
    }

    private static void farthest() {
        SectorView view = open();
        view.startAt(32767, -32768, 0, 0);
        for (int i = 0; i < 113; i++) {
            CHECKS.due("a step", view.stepBy(64, 0, 0, false), 1);
        }
        due(view, "113 steps on", 39999, -32768);
        CHECKS.due("beyond", view.stepBy(2, 0, 0, false), 2);
        due(view, "beyond", 39999, -32768, 0, 0, 41, 114);
        CHECKS.due("up to 40000", view.stepBy(1, 0, 0, false), 1);
        due(view, "up to 40000", 40000, -32768);
        CHECKS.due("beyond", view.stepBy(1, 0, 0, false), 2);
        for (int i = 0; i < 113; i++) {
            CHECKS.due("a step aside", view.stepBy(0, 64, 0, false), 1);
        }
        due(view, "down", 40000, -40000);
        CHECKS.due("beyond", view.stepBy(0, 1, 0, false), 2);
        CHECKS.due("beyond", view.stepBy(-5, 1, 0, false), 2);
        due(view, "both or none", 40000, -40000);
    }

    private static void wrongInputs() {
        SectorView view = open();
        int[][] wrong = {{65, 0, 0}, {-65, 0, 0}, {0, 65, 0}, {0, -65, 0}, {0, 0, 17}, {0, 0, -17}};
        for (int[] w : wrong) {
            CHECKS.due("stepBy", view.stepBy(w[0], w[1], w[2], false), -1);
        }
        due(view, "no step, no tick", 0, 0, 0, 0, 41, 0, 100000);
        CHECKS.due("walkerOf(-1)", view.walkerOf(-1), 100000);
        CHECKS.due("lookAt(4): a step is none of the run", view.lookAt(4), 0);
        view.stepBy(5, 0, 0, false);
        CHECKS.due("lookAt(4): a step is none of the run", view.lookAt(4), 0);
    }
}
