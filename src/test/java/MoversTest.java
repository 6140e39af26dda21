/** Promise 16 and the terms behind it: doors, lifts, risers, what starts them, and light. */
public final class MoversTest {
    private static final Checks CHECKS = new Checks();
    private static final int NO = MapMaker.NO;

    public static void main(String[] args) {
        door();
        doorTops();
        doorAgain();
        doorOnWalker();
        lift();
        liftUnderWalker();
        riser();
        riserUnderWalker();
        crossing();
        using();
        lights();
        wrongWhats();
        CHECKS.end();
    }

    private static void due(SectorView view, String what, int sector, int... answers) {
        for (int i = 0; i < answers.length; i++) {
            CHECKS.due(what + ": sectorOf(" + sector + ", " + i + ")", view.sectorOf(sector, i), answers[i]);
        }
    }

    private static void rest(SectorView view, int ticks) {
        for (int i = 0; i < ticks; i++) {
            view.stepBy(0, 0, 0, false);
        }
    }

    private static SectorView doorView() {
        return new Corridor().sector(0, 128, 9, 0, 0).sector(0, 3, 9, 0, 0).sector(10, 100, 9, 0, 0)
            .wall(50, 0, 1, 1, 0).wall(80, 1, 2, 0, 0).view();
    }

    private static void door() {
        SectorView view = doorView();
        due(view, "at first", 1, 0, 3, 9, -1, 0);
        view.stepBy(0, 0, 0, true);
        due(view, "it goes at once", 1, 0, 11, 9, 0, 1);
        CHECKS.due("lookAt(11)", view.lookAt(11), 1);
        rest(view, 10);
        due(view, "nearly up", 1, 0, 91, 9, 0, 1);
        rest(view, 1);
        due(view, "up, 4 below the lowest ceiling", 1, 0, 96, 9, 0, 0);
        rest(view, 19);
        due(view, "it waits", 1, 0, 96, 9, 0, 0);
        rest(view, 1);
        due(view, "it has waited 20 ticks", 1, 0, 96, 9, 0, -1);
        rest(view, 1);
        due(view, "it goes down", 1, 0, 88, 9, 0, -1);
        rest(view, 10);
        due(view, "nearly down", 1, 0, 8, 9, 0, -1);
        rest(view, 1);
        due(view, "down", 1, 0, 0, 9, -1, 0);
        CHECKS.due("lookAt(11)", view.lookAt(11), 0);
        view.stepBy(0, 0, 0, true);
        due(view, "again, from what it is now", 1, 0, 8, 9, 0, 1);
    }

    private static void doorTops() {
        SectorView view = new Corridor().sector(0, 100, 9, 0, 0).sector(0, 98, 9, 0, 0).wall(50, 0, 1, 1, 0).view();
        view.stepBy(0, 0, 0, true);
        due(view, "its ceiling is higher than 4 below the lowest: a step of nothing", 1, 0, 98, 9, 0, 0);
        rest(view, 20);
        due(view, "then down", 1, 0, 98, 9, 0, -1);
        view = new Corridor().sector(0, 100, 9, 0, 0).wall(50, 0, 0, 1, 0).view();
        view.stepBy(0, 0, 0, true);
        due(view, "no neighbour: one and the same sector is none", 0, 0, 100, 9, 0, 0);
        view = new Corridor().sector(0, 100, 9, 0, 0).sector(0, 98, 9, 0, 0).solid(50, 0).wall(90, 1, NO, 3, 0).view();
        due(view, "nothing moves", 1, 0, 98, 9, -1, 0);
    }

    private static void doorAgain() {
        SectorView view = doorView();
        view.stepBy(0, 0, 0, true);
        view.stepBy(0, 0, 0, true);
        due(view, "one that goes up goes on", 1, 0, 19, 9, 0, 1);
        rest(view, 10);
        due(view, "it waits", 1, 0, 96, 9, 0, 0);
        rest(view, 5);
        view.stepBy(0, 0, 0, true);
        due(view, "up where it is up: it waits anew", 1, 0, 96, 9, 0, 0);
        rest(view, 19);
        due(view, "it waits", 1, 0, 96, 9, 0, 0);
        rest(view, 1);
        due(view, "20 ticks from there", 1, 0, 96, 9, 0, -1);
        rest(view, 3);
        due(view, "it goes down", 1, 0, 72, 9, 0, -1);
        view.stepBy(0, 0, 0, true);
        due(view, "it goes up from there", 1, 0, 80, 9, 0, 1);
        rest(view, 2);
        due(view, "to its top", 1, 0, 96, 9, 0, 0);
    }

    private static void doorOnWalker() {
        SectorView view = doorView();
        view.stepBy(0, 0, 0, true);
        rest(view, 11);
        CHECKS.due("into the door", view.stepBy(60, 0, 0, false), 1);
        CHECKS.due("the walker is in it", view.walkerOf(3), 1);
        rest(view, 19);
        due(view, "it goes down", 1, 0, 96, 9, 0, -1);
        rest(view, 5);
        due(view, "to 56", 1, 0, 56, 9, 0, -1);
        rest(view, 1);
        due(view, "not farther: up from the next tick on", 1, 0, 56, 9, 0, 1);
        rest(view, 1);
        due(view, "up", 1, 0, 64, 9, 0, 1);
        rest(view, 4);
        due(view, "to the same top", 1, 0, 96, 9, 0, 0);
        view.startAt(60, 0, 32, 1);
        due(view, "low above the walker", 1, 0, 3, 9, -1, 0);
        SectorView low = new Corridor().sector(0, 30, 9, 0, 0).sector(0, 20, 9, 0, 0).wall(50, 1, 0, 1, 0).view();
        low.startAt(0, 0, 0, 0);
        low.stepBy(0, 0, 0, true);
        due(low, "its top is its ceiling", 0, 0, 30, 9, 0, 0);
        rest(low, 20);
        due(low, "down", 0, 0, 30, 9, 0, -1);
        rest(low, 1);
        due(low, "no way down on the walker", 0, 0, 30, 9, 0, 1);
        rest(low, 1);
        due(low, "up where it is up", 0, 0, 30, 9, 0, 0);
    }

    private static Corridor liftCorridor(int floor, int ceiling) {
        return new Corridor().sector(0, 300, 9, 0, 0).sector(floor, ceiling, 9, 0, 7).sector(-7, 300, 9, 0, 0)
            .wall(50, 0, 1, 4, 7).wall(80, 1, 2, 0, 0);
    }

    private static void lift() {
        SectorView view = liftCorridor(10, 200).view();
        view.stepBy(0, 0, 0, true);
        due(view, "it goes at once", 1, 6, 200, 9, 1, -1);
        rest(view, 3);
        due(view, "nearly down", 1, -6, 200, 9, 1, -1);
        rest(view, 1);
        due(view, "at the lowest floor beside it", 1, -7, 200, 9, 1, 0);
        view.stepBy(0, 0, 0, true);
        due(view, "to start it does nothing", 1, -7, 200, 9, 1, 0);
        rest(view, 28);
        due(view, "it waits", 1, -7, 200, 9, 1, 0);
        rest(view, 1);
        due(view, "it has waited 30 ticks", 1, -7, 200, 9, 1, 1);
        rest(view, 4);
        due(view, "nearly up", 1, 9, 200, 9, 1, 1);
        rest(view, 1);
        due(view, "where it was", 1, 10, 200, 9, -1, 0);
        view = liftCorridor(-100, 200).view();
        view.stepBy(0, 0, 0, true);
        due(view, "the lowest is its own: a step of nothing", 1, -100, 200, 9, 1, 0);
        rest(view, 30);
        due(view, "up", 1, -100, 200, 9, 1, 1);
        rest(view, 1);
        due(view, "no way up", 1, -100, 200, 9, -1, 0);
    }

    private static void liftUnderWalker() {
        Corridor corridor = liftCorridor(20, 74);
        SectorView view = corridor.view();
        view.stepBy(0, 0, 0, true);
        rest(view, 6);
        due(view, "down", 1, -7, 74, 9, 1, 0);
        CHECKS.due("onto the lift", view.stepBy(60, 0, 0, false), 1);
        CHECKS.due("the eye is 41 above its floor", view.walkerOf(4), 34);
        rest(view, 29);
        due(view, "up", 1, -7, 74, 9, 1, 1);
        rest(view, 6);
        due(view, "56 are left at 18", 1, 17, 74, 9, 1, 1);
        CHECKS.due("the walker goes up with it", view.walkerOf(4), 58);
        rest(view, 9);
        due(view, "it tries again", 1, 17, 74, 9, 1, 1);
        CHECKS.due("off the lift", view.stepBy(-60, 0, 0, false), 1);
        due(view, "free at once", 1, 20, 74, 9, -1, 0);
    }

    private static Corridor riserCorridor(int ceiling) {
        return new Corridor().sector(0, 300, 9, 0, 0).sector(-9, ceiling, 9, 0, 7).sector(4, 300, 9, 0, 0)
            .wall(20, 0, 0, 5, 7).wall(50, 0, 1, 0, 0).wall(80, 1, 2, 0, 0);
    }

    private static void riser() {
        SectorView view = riserCorridor(200).view();
        view.stepBy(30, 0, 0, false);
        due(view, "it goes at once", 1, -7, 200, 9, 2, 1);
        rest(view, 5);
        due(view, "nearly up", 1, 3, 200, 9, 2, 1);
        rest(view, 1);
        due(view, "at the highest floor beside it", 1, 4, 200, 9, -1, 0);
        view.stepBy(-30, 0, 0, false);
        due(view, "again: no way left", 1, 4, 200, 9, -1, 0);
        view = riserCorridor(-4).view();
        view.stepBy(30, 0, 0, false);
        rest(view, 1);
        due(view, "nearly at its ceiling", 1, -5, -4, 9, 2, 1);
        rest(view, 1);
        due(view, "at its ceiling", 1, -4, -4, 9, -1, 0);
        view = new Corridor().sector(0, 300, 9, 0, 7).sector(5, 300, 9, 0, 7).wall(20, 0, 1, 5, 7).view();
        view.stepBy(30, 0, 0, false);
        due(view, "the higher one stays", 1, 5, 300, 9, -1, 0);
        due(view, "the lower one rises", 0, 2, 300, 9, 2, 1);
    }

    private static void riserUnderWalker() {
        SectorView view = new Corridor().sector(0, 57, 9, 0, 7).sector(9, 300, 9, 0, 0).wall(20, 0, 0, 5, 7).wall(50, 0, 1, 0, 0).view();
        view.stepBy(30, 0, 0, false);
        due(view, "no room to rise", 0, 0, 57, 9, 2, 1);
        rest(view, 50);
        due(view, "no room to rise", 0, 0, 57, 9, 2, 1);
        view = new Corridor().sector(0, 58, 9, 0, 7).sector(9, 300, 9, 0, 0).wall(20, 0, 0, 5, 7).wall(50, 0, 1, 0, 0).view();
        view.stepBy(30, 0, 0, false);
        due(view, "room for 2", 0, 2, 58, 9, 2, 1);
        rest(view, 5);
        due(view, "no more", 0, 2, 58, 9, 2, 1);
    }

    private static void crossing() {
        for (int kind = 0; kind < 6; kind++) {
            int mover = kind == 2 ? 1 : kind == 3 ? 0 : kind == 5 ? 2 : -1;
            SectorView view = new Corridor().sector(0, 100, 9, 0, 4).sector(50, 150, 9, 0, 0).sector(0, 90, 9, 0, 4).sector(90, 200, 9, 0, 5)
                .wall(20, 0, 0, kind, 4).wall(300, 0, 1, 0, 0).wall(400, 2, 3, 0, 0).view();
            view.stepBy(19, 0, 0, false);
            due(view, "not crossed", 0, 0, 100, 9, -1, 0);
            view.stepBy(1, 0, 0, false);
            CHECKS.due("kind " + kind, view.sectorOf(0, 3), mover);
            CHECKS.due("kind " + kind, view.sectorOf(1, 3), -1);
            CHECKS.due("kind " + kind, view.sectorOf(2, 3), mover);
            CHECKS.due("kind " + kind, view.sectorOf(3, 3), -1);
            CHECKS.due("lookAt(11)", view.lookAt(11), mover < 0 ? 0 : 2);
            view.startAt(30, 0, 0, 0);
            view.stepBy(-30, 0, 0, false);
            CHECKS.due("kind " + kind + " from its back", view.sectorOf(0, 3), mover);
        }
        Corridor most = new Corridor().wall(20, 0, 0, 2, 9);
        for (int i = 0; i < 32; i++) {
            most.sector(0, 100, 9, 0, 9);
        }
        SectorView all = most.view();
        all.stepBy(30, 0, 0, false);
        CHECKS.due("as many as can be", all.lookAt(11), 32);
        CHECKS.due("the last one", all.sectorOf(31, 3), 1);
        SectorView view = new Corridor().sector(0, 100, 9, 0, 0).sector(0, 40, 9, 0, 9).wall(20, 0, 0, 3, 9).wall(40, 0, 1, 0, 0).view();
        CHECKS.due("stopped by the second", view.stepBy(50, 0, 0, false), 2);
        CHECKS.due("so none is started", view.lookAt(11), 0);
        view = new Corridor().sector(0, 100, 9, 0, 0).sector(50, 100, 9, 0, 0).wall(20, 0, 0, 2, 0).wall(30, 0, 0, 3, 0).view();
        view.stepBy(50, 0, 0, false);
        CHECKS.due("the first one counts; 0 is a tag like any other", view.sectorOf(0, 3), 1);
        CHECKS.due("the first one counts", view.sectorOf(1, 3), 1);
    }

    private static SectorView useView(int x, int kind, int back) {
        return new Corridor().sector(0, 100, 9, 0, 3).sector(0, 50, 9, 0, 4).sector(0, 50, 9, 0, 3)
            .wall(x, 0, back, kind, 3).view();
    }

    private static void using() {
        SectorView view = useView(64, 1, 1);
        view.stepBy(0, 0, 0, true);
        CHECKS.due("R of 1 / 4: the sector behind it, whatever its tag", view.sectorOf(1, 3), 0);
        CHECKS.due("no other", view.lookAt(11), 1);
        view = useView(65, 1, 1);
        view.stepBy(0, 0, 0, true);
        CHECKS.due("too far off", view.lookAt(11), 0);
        view.stepBy(1, 0, 0, true);
        CHECKS.due("from where the step led", view.lookAt(11), 1);
        view = useView(64, 1, 1);
        view.stepBy(0, 0, 0, false);
        CHECKS.due("it does not use", view.lookAt(11), 0);
        view.stepBy(0, 0, 16, true);
        CHECKS.due("it looks elsewhere", view.lookAt(11), 0);
        view.startAt(100, 0, 32, 0);
        view.stepBy(0, 0, 0, true);
        CHECKS.due("from its back", view.lookAt(11), 0);
        view.startAt(64, 0, 0, 0);
        view.stepBy(0, 0, 0, true);
        CHECKS.due("on it", view.lookAt(11), 0);
        view = useView(30, 1, 2);
        CHECKS.due("stopped", view.stepBy(40, 0, 0, true), 2);
        CHECKS.due("used all the same", view.sectorOf(2, 3), 0);
        view = useView(64, 1, NO);
        view.stepBy(0, 0, 0, true);
        CHECKS.due("no sector behind it", view.lookAt(11), 0);
        view = useView(64, 4, NO);
        view.stepBy(0, 0, 0, true);
        CHECKS.due("a lift needs none", view.sectorOf(0, 3), 1);
        CHECKS.due("all with its tag", view.sectorOf(2, 3), 1);
        CHECKS.due("not the other", view.sectorOf(1, 3), -1);
        for (int kind : new int[] {0, 2, 3, 5}) {
            view = useView(64, kind, 1);
            view.stepBy(0, 0, 0, true);
            CHECKS.due("kind " + kind + " is not used", view.lookAt(11), 0);
        }
        view = new Corridor().sector(0, 100, 9, 0, 0).sector(0, 50, 9, 0, 0).wall(40, 0, 1, 1, 0).wall(30, 0, 0, 0, 0).view();
        view.stepBy(0, 0, 0, true);
        CHECKS.due("the first wall alone", view.lookAt(11), 0);
        Corridor passed = new Corridor().sector(0, 100, 9, 0, 0).sector(0, 50, 9, 0, 0).wall(40, 0, 1, 1, 0);
        passed.map.vertex(30, -200).vertex(30, 200).plainWall(2, 3, 0, NO, 1, 0);
        view = passed.view();
        view.stepBy(0, 0, 0, true);
        CHECKS.due("one that would be passed over counts", view.lookAt(11), 0);
    }

    private static void lights() {
        SectorView view = new Corridor().sector(0, 100, 13, 0, 0).sector(0, 100, 13, 1, 0).sector(0, 100, 13, 2, 0)
            .sector(0, 100, 1, 3, 1).sector(0, 100, 15, 3, 1).sector(0, 50, 2, 3, 1).wall(20, 0, 0, 2, 1).view();
        for (int tick = 0; tick < 100; tick++) {
            CHECKS.due("tick " + tick, view.walkerOf(5), tick);
            CHECKS.due("kind 0 at " + tick, view.sectorOf(0, 2), 13);
            CHECKS.due("kind 1 at " + tick, view.sectorOf(1, 2), tick % 16 < 4 ? 13 : 6);
            CHECKS.due("kind 2 at " + tick, view.sectorOf(2, 2), tick < 32 || tick >= 64 && tick < 96 ? 13 : 0);
            CHECKS.due("kind 3 at " + tick, view.sectorOf(4, 2), 15);
            rest(view, 1);
        }
        view.stepBy(30, 0, 0, false);
        CHECKS.due("lookAt(11)", view.lookAt(11), 3);
        CHECKS.due("15 less 3", view.sectorOf(4, 2), 12);
        CHECKS.due("0 at least", view.sectorOf(3, 2), 0);
        CHECKS.due("0 at least", view.sectorOf(5, 2), 0);
        CHECKS.due("kind 0 as ever", view.sectorOf(0, 2), 13);
        rest(view, 30);
        CHECKS.due("lookAt(11)", view.lookAt(11), 3);
        rest(view, 1);
        CHECKS.due("lookAt(11)", view.lookAt(11), 0);
        CHECKS.due("15 again", view.sectorOf(4, 2), 15);
    }

    private static void wrongWhats() {
        SectorView view = doorView();
        CHECKS.due("sectorOf(0, 5)", view.sectorOf(0, 5), 100000);
        CHECKS.due("sectorOf(0, -1)", view.sectorOf(0, -1), 100000);
        CHECKS.due("sectorOf(3, 0)", view.sectorOf(3, 0), 100000);
        CHECKS.due("sectorOf(-1, 0)", view.sectorOf(-1, 0), 100000);
        CHECKS.due("sectorOf(most, 0)", view.sectorOf(Integer.MAX_VALUE, 0), 100000);
        CHECKS.due("sectorOf(2, 0)", view.sectorOf(2, 0), 10);
    }
}
