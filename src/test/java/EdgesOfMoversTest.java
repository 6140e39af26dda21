/** The boundary sentences of doors, lifts, risers, TICKS and light, and of promise 16: sectorOf. */
public final class EdgesOfMoversTest {
    private static final Sentences S = new Sentences();
    private static final int NO = MapMaker.NO;

    public static void main(String[] args) {
        S.test("NEIGHBOURS are two SECTORS, not the same one, that are FRONT and BACK of a WALL.", EdgesOfMoversTest::neighbours);
        S.test("FLOOR and CEILING are what they are now, but for THE MAP itself.", EdgesOfMoversTest::heightsNow);
        S.test("LOW FLOOR of a SECTOR is the lowest FLOOR of its NEIGHBOURS, or its own, whichever is lower", EdgesOfMoversTest::lowFloor);
        S.test("HIGH FLOOR the highest one of its NEIGHBOURS, or its own if that is higher", EdgesOfMoversTest::highFloor);
        S.test("LOW CEILING the lowest CEILING of its NEIGHBOURS (its own, if it has none)", EdgesOfMoversTest::lowCeiling);
        S.test("its CEILING rises 8 a TICK, up to its TOP, which is LOW CEILING - 4 when it was started, or its CEILING then, if that is"
            + " higher", EdgesOfMoversTest::doorTop);
        S.test("there it WAITS 20 TICKS", EdgesOfMoversTest::doorWaits);
        S.test("its CEILING sinks 8 a TICK, down to its FLOOR; there it ends.", EdgesOfMoversTest::doorDown);
        S.test("its FLOOR sinks 4 a TICK, down to its BOTTOM, LOW FLOOR when it was started", EdgesOfMoversTest::liftDown);
        S.test("there it WAITS 30 TICKS", EdgesOfMoversTest::liftWaits);
        S.test("then its FLOOR rises 4 a TICK, up to what it was when it was started; there it ends.", EdgesOfMoversTest::liftUp);
        S.test("its FLOOR rises 2 a TICK, up to its TOP, HIGH FLOOR when it was started, or its CEILING then, if that is lower",
            EdgesOfMoversTest::riser);
        S.test("(The last step of a way may be shorter; without a way it is one of nothing, at the next TICK.)",
            EdgesOfMoversTest::lastSteps);
        S.test("To start one in a SECTOR that has a MOVER does nothing", EdgesOfMoversTest::startedTwice);
        S.test("but a DOOR that is started where a DOOR goes DOWN or WAITS goes UP, to its TOP.", EdgesOfMoversTest::doorAgain);
        S.test("A step of a DOOR that goes DOWN, with the walker in its SECTOR, that would leave less than 56 between FLOOR and CEILING,"
            + " is not done", EdgesOfMoversTest::doorOnWalker);
        S.test("it goes UP again instead, from the next TICK on, to the same TOP", EdgesOfMoversTest::doorUpAgain);
        S.test("A step upwards of a LIFT or a RISER that would leave less than 56 there, with the walker in it, is not done (it is tried"
            + " again at the next TICK).", EdgesOfMoversTest::liftedWalker);
        S.test("TICKS is 1 more (0 at START)", EdgesOfMoversTest::ticks);
        S.test("each SECTOR with a MOVER, by their numbers", EdgesOfMoversTest::allMove);
        S.test("if it WAITS, one TICK less is left to wait, and if none is left it goes on from the next TICK on",
            EdgesOfMoversTest::goesOn);
        S.test("if it has come to the end of its way, it WAITS from the next TICK on", EdgesOfMoversTest::waitsFromTheNext);
        S.test("or the SECTOR has no MOVER any more (behind this TICK already)", EdgesOfMoversTest::endsAtOnce);
        S.test("THE LIGHT of a SECTOR of KIND 1 is LIGHT in the first 4 of each 16 TICKS (TICKS 0 .. 3, 16 .. 19, ..), else half of it,"
            + " rounded down", EdgesOfMoversTest::blinking);
        S.test("of KIND 2: LIGHT if TICKS / 32, rounded down, is even, else 0", EdgesOfMoversTest::switching);
        S.test("of KIND 3: LIGHT less the number of MOVERS, 0 at least; of KIND 0 always LIGHT.", EdgesOfMoversTest::dimming);
        S.test("what 0: FLOOR, 1: CEILING, 2: THE LIGHT, 3: its MOVER (0 DOOR, 1 LIFT, 2 RISER; NONE without one)",
            EdgesOfMoversTest::whats);
        S.test("4: where that goes: 1 up (also when a step is not done), -1 down, 0 if it WAITS, or there is none.",
            EdgesOfMoversTest::ways);
        S.test("100000 if there is no such SECTOR (so without a MAP), or what.", EdgesOfMoversTest::wrongOnes);
        S.end();
    }

    private static void rest(SectorView view, int ticks) {
        for (int i = 0; i < ticks; i++) {
            view.stepBy(0, 0, 0, false);
        }
    }

    private static void use(SectorView view) {
        view.stepBy(0, 0, 0, true);
    }

    /** The walker stands in sector 0 and can use what leads to sector 1, which has these neighbours, too. */
    private static Corridor mover(int useKind, int floor, int ceiling, int... heights) {
        Corridor corridor = new Corridor().sector(0, 400, 9, 0, 0).sector(floor, ceiling, 9, 0, 7).wall(50, 0, 1, useKind, 7);
        for (int i = 0; i < heights.length; i += 2) {
            corridor.sector(heights[i], heights[i + 1], 9, 0, 0).wall(60 + 10 * i, 1, 2 + i / 2, 0, 0);
        }
        return corridor;
    }

    private static Corridor door(int floor, int ceiling, int... heights) {
        return mover(1, floor, ceiling, heights);
    }

    private static Corridor lift(int floor, int ceiling, int... heights) {
        return mover(4, floor, ceiling, heights);
    }

    /** The walker crosses the wall at 20 to start a riser in sector 1. */
    private static SectorView riserStarted(int floor, int ceiling, int... heights) {
        SectorView view = mover(0, floor, ceiling, heights).wall(20, 0, 0, 5, 7).view();
        view.stepBy(30, 0, 0, false);
        return view;
    }

    private static void neighbours() {
        Corridor same = new Corridor().sector(0, 400, 9, 0, 0).sector(0, 40, 9, 0, 7).wall(50, 0, 1, 1, 0).wall(70, 1, 1, 0, 0);
        SectorView view = same.view();
        use(view);
        rest(view, 60);
        S.dueSector("a wall with one sector on both sides makes no neighbour", view, 1, 0, 396, 9, 0, 0);
        Corridor solid = new Corridor().sector(0, 400, 9, 0, 0).sector(0, 40, 9, 0, 7).sector(0, 100, 9, 0, 7)
            .wall(50, 0, 1, 1, 0).solid(70, 1).solid(80, 2);
        view = solid.view();
        use(view);
        rest(view, 60);
        S.dueSector("a wall without a back makes none", view, 1, 0, 396, 9, 0, 0);
        Corridor turned = new Corridor().sector(0, 400, 9, 0, 0).sector(0, 40, 9, 0, 7).sector(0, 100, 9, 0, 7)
            .wall(50, 0, 1, 1, 0).wall(70, 2, 1, 0, 0);
        view = turned.view();
        use(view);
        rest(view, 20);
        S.dueSector("front and back, either way", view, 1, 0, 96, 9, 0, 0);
        Corridor far = new Corridor().sector(0, 400, 9, 0, 0).sector(0, 40, 9, 0, 7).sector(0, 100, 9, 0, 7).sector(0, 50, 9, 0, 7)
            .wall(50, 0, 1, 1, 0).wall(70, 1, 2, 0, 0).wall(90, 2, 3, 0, 0);
        view = far.view();
        use(view);
        rest(view, 20);
        S.dueSector("a neighbour's neighbour is none", view, 1, 0, 96, 9, 0, 0);
    }

    private static void heightsNow() {
        // Sector 1 sinks to -40 first; then a lift in sector 2, beside it alone, sinks as far.
        SectorView view = new Corridor().sector(-40, 400, 9, 0, 0).sector(0, 400, 9, 0, 7).sector(10, 400, 9, 0, 8)
            .wall(30, 0, 1, 4, 7).wall(60, 1, 2, 0, 0).wall(20, 0, 0, 2, 8).view();
        view.startAt(25, 0, 0, 0);
        use(view);
        rest(view, 9);
        S.dueSector("down", view, 1, -40, 400, 9, 1, 0);
        view.stepBy(-10, 0, 0, false);
        rest(view, 12);
        S.dueSector("as far as that is now", view, 2, -40, 400, 9, 1, 0);
        view.playTo(0);
        S.dueSector("THE MAP itself", view, 2, 10, 400, 9, -1, 0);
    }

    private static void dueBottom(int bottom, int floor, int... heights) {
        SectorView view = lift(floor, 400, heights).view();
        use(view);
        rest(view, 25);
        S.dueSector("a floor of " + floor, view, 1, bottom, 400, 9, 1, 0);
    }

    private static void lowFloor() {
        dueBottom(0, 20);
        dueBottom(-9, 20, -9, 400);
        dueBottom(-9, 20, 10, 400, -9, 400);
        dueBottom(-9, 20, -9, 400, 10, 400);
        dueBottom(0, 20, 100, 400);
        dueBottom(0, 0);
        dueBottom(-1, -1);
        dueBottom(-70, -70, -69, 400);
        dueBottom(-70, -69, -70, 400);
    }

    private static void dueRisen(int top, int floor, int... heights) {
        SectorView view = riserStarted(floor, 400, heights);
        rest(view, 60);
        S.dueSector("a floor of " + floor, view, 1, top, 400, 9, -1, 0);
    }

    private static void highFloor() {
        dueRisen(0, -20);
        dueRisen(9, -20, 9, 400);
        dueRisen(9, -20, 9, 400, -30, 400);
        dueRisen(9, -20, -30, 400, 9, 400);
        dueRisen(0, -20, -100, 400);
        dueRisen(0, 0);
        dueRisen(1, 1);
        dueRisen(30, 30, 29, 400);
        dueRisen(30, 29, 30, 400);
    }

    private static void dueTop(int top, int ceiling, int... heights) {
        SectorView view = door(0, ceiling, heights).view();
        use(view);
        for (int i = 0; i < 60 && view.sectorOf(1, 4) == 1; i++) {
            rest(view, 1);
        }
        S.dueSector("a ceiling of " + ceiling, view, 1, 0, top, 9, 0, 0);
    }

    private static void lowCeiling() {
        dueTop(396, 40);
        dueTop(86, 40, 0, 90);
        dueTop(86, 40, 0, 90, 0, 300);
        dueTop(86, 40, 0, 300, 0, 90);
        dueTop(40, 40, 0, 30);
        SectorView alone = new Corridor().sector(0, 90, 9, 0, 0).wall(50, 0, 0, 1, 0).view();
        use(alone);
        S.dueSector("no neighbour: its own - 4 is below its own", alone, 0, 0, 90, 9, 0, 0);
    }

    private static void doorTop() {
        dueTop(96, 90, 0, 100);
        dueTop(96, 95, 0, 100);
        dueTop(96, 96, 0, 100);
        dueTop(97, 97, 0, 100);
        dueTop(100, 100, 0, 100);
        dueTop(101, 101, 0, 100);
        SectorView view = door(0, 80, 0, 100).view();
        use(view);
        S.dueSector("8 a TICK", view, 1, 0, 88, 9, 0, 1);
        rest(view, 1);
        S.dueSector("8 a TICK, at the TOP", view, 1, 0, 96, 9, 0, 0);
        topWhenStarted();
    }

    // Doors 1 and 2 are started at once; door 2 sinks while door 1 is up, which goes up to its first TOP all the same.
    private static void topWhenStarted() {
        SectorView view = new Corridor().sector(0, 300, 9, 0, 0).sector(0, 4, 9, 0, 7).sector(0, 100, 9, 0, 7)
            .wall(50, 0, 1, 1, 0).wall(80, 1, 2, 0, 0).wall(20, 0, 0, 3, 7).view();
        view.stepBy(30, 0, 0, false);
        rest(view, 11);
        S.dueSector("up", view, 1, 0, 96, 9, 0, 0);
        rest(view, 23);
        S.dueSector("down again", view, 1, 0, 72, 9, 0, -1);
        S.dueSector("the other one is lower than that", view, 2, 0, 0, 9, -1, 0);
        use(view);
        rest(view, 3);
        S.dueSector("to its TOP of the start", view, 1, 0, 96, 9, 0, 0);
    }

    private static void doorWaits() {
        SectorView view = door(0, 90, 0, 100).view();
        use(view);
        S.dueSector("up", view, 1, 0, 96, 9, 0, 0);
        for (int tick = 1; tick < 20; tick++) {
            rest(view, 1);
            S.dueSector("waits " + tick, view, 1, 0, 96, 9, 0, 0);
        }
        rest(view, 1);
        S.dueSector("has waited 20", view, 1, 0, 96, 9, 0, -1);
        rest(view, 1);
        S.dueSector("goes", view, 1, 0, 88, 9, 0, -1);
    }

    private static void dueShut(int floor, int ceiling, int ticks) {
        SectorView view = door(floor, ceiling).view();
        view.startAt(0, 0, 0, 0);
        use(view);
        for (int i = 0; i < 100 && view.sectorOf(1, 4) != -1; i++) {
            rest(view, 1);
        }
        int top = view.sectorOf(1, 1);
        for (int i = 1; i < ticks; i++) {
            rest(view, 1);
            S.dueSector("going down " + i, view, 1, floor, top - 8 * i, 9, 0, -1);
        }
        rest(view, 1);
        S.dueSector("down, ended", view, 1, floor, floor, 9, -1, 0);
        rest(view, 3);
        S.dueSector("it stays", view, 1, floor, floor, 9, -1, 0);
    }

    // The TOP is 396.
    private static void doorDown() {
        dueShut(380, 390, 2);
        dueShut(388, 390, 1);
        dueShut(389, 390, 1);
        dueShut(387, 390, 2);
        dueShut(-4, 390, 50);
    }

    private static void liftDown() {
        SectorView view = lift(8, 400).view();
        use(view);
        S.dueSector("4 a TICK", view, 1, 4, 400, 9, 1, -1);
        rest(view, 1);
        S.dueSector("at its BOTTOM", view, 1, 0, 400, 9, 1, 0);
        view = lift(9, 400).view();
        use(view);
        rest(view, 1);
        S.dueSector("8 of 9", view, 1, 1, 400, 9, 1, -1);
        rest(view, 1);
        S.dueSector("9 of 9", view, 1, 0, 400, 9, 1, 0);
        bottomWhenStarted();
    }

    // Lifts 1 and 2 start at once, by their numbers: what the other one does later is nothing to them.
    private static void bottomWhenStarted() {
        SectorView view = new Corridor().sector(-20, 400, 9, 0, 0).sector(0, 400, 9, 0, 7).sector(30, 400, 9, 0, 7)
            .wall(50, 0, 1, 0, 0).wall(80, 1, 2, 0, 0).wall(20, 0, 0, 2, 7).view();
        view.stepBy(30, 0, 0, false);
        rest(view, 20);
        S.dueSector("lower by now", view, 1, -20, 400, 9, 1, 0);
        S.dueSector("down to what that was", view, 2, 0, 400, 9, 1, 0);
    }

    private static void liftWaits() {
        SectorView view = lift(4, 400).view();
        use(view);
        S.dueSector("down", view, 1, 0, 400, 9, 1, 0);
        for (int tick = 1; tick < 30; tick++) {
            rest(view, 1);
            S.dueSector("waits " + tick, view, 1, 0, 400, 9, 1, 0);
        }
        rest(view, 1);
        S.dueSector("has waited 30", view, 1, 0, 400, 9, 1, 1);
        rest(view, 1);
        S.dueSector("goes", view, 1, 4, 400, 9, -1, 0);
    }

    private static void liftUp() {
        SectorView view = lift(9, 400).view();
        use(view);
        rest(view, 2 + 30);
        S.dueSector("up", view, 1, 0, 400, 9, 1, 1);
        rest(view, 2);
        S.dueSector("4 a TICK", view, 1, 8, 400, 9, 1, 1);
        rest(view, 1);
        S.dueSector("what it was", view, 1, 9, 400, 9, -1, 0);
        rest(view, 2);
        S.dueSector("it stays", view, 1, 9, 400, 9, -1, 0);
        use(view);
        S.dueSector("again", view, 1, 5, 400, 9, 1, -1);
    }

    private static void riser() {
        SectorView view = riserStarted(-5, 400);
        S.dueSector("2 a TICK", view, 1, -3, 400, 9, 2, 1);
        rest(view, 1);
        S.dueSector("4 of 5", view, 1, -1, 400, 9, 2, 1);
        rest(view, 1);
        S.dueSector("5 of 5", view, 1, 0, 400, 9, -1, 0);
        int[][] ceilings = {{-4, -4}, {-1, -1}, {0, 0}, {1, 0}};
        for (int[] c : ceilings) {
            view = riserStarted(-5, c[0]);
            rest(view, 10);
            S.dueSector("a ceiling of " + c[0], view, 1, c[1], c[0], 9, -1, 0);
        }
        // Riser 2 starts with riser 1: it goes up to what that was then.
        view = new Corridor().sector(0, 400, 9, 0, 0).sector(-10, 400, 9, 0, 7).sector(-30, 400, 9, 0, 7)
            .wall(50, 0, 1, 0, 0).wall(80, 1, 2, 0, 0).wall(20, 0, 0, 5, 7).view();
        view.stepBy(30, 0, 0, false);
        rest(view, 20);
        S.dueSector("risen", view, 1, 0, 400, 9, -1, 0);
        S.dueSector("up to what that was", view, 2, -10, 400, 9, -1, 0);
    }

    private static void lastSteps() {
        SectorView view = door(0, 95, 0, 100).view();
        use(view);
        S.dueSector("a door's step of 1", view, 1, 0, 96, 9, 0, 0);
        view = door(0, 96, 0, 100).view();
        use(view);
        S.dueSector("a door's step of nothing", view, 1, 0, 96, 9, 0, 0);
        rest(view, 20);
        S.dueSector("it has waited", view, 1, 0, 96, 9, 0, -1);
        view = lift(1, 400).view();
        use(view);
        S.dueSector("a lift's step of 1", view, 1, 0, 400, 9, 1, 0);
        view = lift(0, 400).view();
        use(view);
        S.dueSector("a lift's step of nothing", view, 1, 0, 400, 9, 1, 0);
        rest(view, 30);
        S.dueSector("it has waited", view, 1, 0, 400, 9, 1, 1);
        rest(view, 1);
        S.dueSector("a step of nothing up", view, 1, 0, 400, 9, -1, 0);
        view = riserStarted(-1, 400);
        S.dueSector("a riser's step of 1", view, 1, 0, 400, 9, -1, 0);
        view = riserStarted(0, 400);
        S.dueSector("a riser's step of nothing", view, 1, 0, 400, 9, -1, 0);
        SectorView shut = riserStarted(-2, -1);
        S.dueSector("a riser at its ceiling", shut, 1, -1, -1, 9, -1, 0);
        shut.stepBy(-20, 0, 0, false);
        S.dueSector("no way up from there", shut, 1, -1, -1, 9, -1, 0);
    }

    /** Sector 1 is moved by crossing the wall at 10, of one kind, and then that at 40, of another one. */
    private static SectorView both(int first, int second) {
        SectorView view = new Corridor().sector(20, 200, 9, 0, 0).sector(0, 100, 9, 0, 7).sector(-30, 150, 9, 0, 0)
            .wall(10, 0, 0, first, 7).wall(40, 0, 0, second, 7).wall(90, 0, 1, 0, 0).wall(120, 1, 2, 0, 0).view();
        view.stepBy(20, 0, 0, false);
        return view;
    }

    private static void startedTwice() {
        int[] kinds = {3, 2, 5};
        int[] ways = {1, -1, 1};
        for (int first = 0; first < 3; first++) {
            for (int second = 0; second < 3; second++) {
                SectorView view = both(kinds[first], kinds[second]);
                SectorView other = both(kinds[first], 0);
                S.due("the first one", view.sectorOf(1, 3), first);
                S.due("its way", view.sectorOf(1, 4), ways[first]);
                view.stepBy(30, 0, 0, false);
                other.stepBy(30, 0, 0, false);
                for (int tick = 0; tick < 60; tick++) {
                    S.dueSector(first + ", then " + second, view, 1, other.sectorOf(1, 0), other.sectorOf(1, 1), 9,
                        other.sectorOf(1, 3), other.sectorOf(1, 4));
                    rest(view, 1);
                    rest(other, 1);
                }
            }
        }
        SectorView waits = lift(4, 400).wall(20, 0, 0, 3, 7).view();
        waits.startAt(30, 0, 0, 0);
        use(waits);
        S.dueSector("a lift waits", waits, 1, 0, 400, 9, 1, 0);
        waits.stepBy(-20, 0, 0, false);
        S.dueSector("no door starts", waits, 1, 0, 400, 9, 1, 0);
        waits.stepBy(20, 0, 0, true);
        S.dueSector("neither a door nor a lift starts", waits, 1, 0, 400, 9, 1, 0);
        rest(waits, 27);
        S.dueSector("29 of 30", waits, 1, 0, 400, 9, 1, 0);
        rest(waits, 1);
        S.dueSector("it waits no longer for that", waits, 1, 0, 400, 9, 1, 1);
    }

    private static void doorAgain() {
        SectorView view = door(0, 90, 0, 100).view();
        use(view);
        S.dueSector("it waits", view, 1, 0, 96, 9, 0, 0);
        rest(view, 7);
        use(view);
        S.dueSector("UP, at its TOP: it waits anew", view, 1, 0, 96, 9, 0, 0);
        rest(view, 19);
        S.dueSector("19 of 20", view, 1, 0, 96, 9, 0, 0);
        rest(view, 1);
        S.dueSector("20 of 20", view, 1, 0, 96, 9, 0, -1);
        use(view);
        S.dueSector("where it was to go DOWN", view, 1, 0, 96, 9, 0, 0);
        rest(view, 20 + 2);
        S.dueSector("it goes DOWN", view, 1, 0, 80, 9, 0, -1);
        use(view);
        S.dueSector("UP from there", view, 1, 0, 88, 9, 0, 1);
        use(view);
        S.dueSector("UP as it goes UP", view, 1, 0, 96, 9, 0, 0);
        rest(view, 20 + 11);
        S.dueSector("nearly down", view, 1, 0, 8, 9, 0, -1);
        use(view);
        S.dueSector("UP at the last moment", view, 1, 0, 16, 9, 0, 1);
        rest(view, 10);
        S.dueSector("to its TOP", view, 1, 0, 96, 9, 0, 0);
        rest(view, 20 + 12);
        S.dueSector("down, ended", view, 1, 0, 0, 9, -1, 0);
        SectorView crossed = door(0, 90, 0, 100).wall(20, 0, 0, 3, 7).view();
        crossed.startAt(30, 0, 0, 0);
        use(crossed);
        rest(crossed, 20 + 1);
        S.dueSector("it goes DOWN", crossed, 1, 0, 88, 9, 0, -1);
        crossed.stepBy(-20, 0, 0, false);
        S.dueSector("UP by a wall that is crossed", crossed, 1, 0, 96, 9, 0, 0);
    }

    /** The walker is in the door's sector, whose TOP is its ceiling; it looks at the wall that uses it. */
    private static SectorView under(int floor, int ceiling) {
        SectorView view = new Corridor().sector(floor, ceiling, 9, 0, 0).sector(floor, floor + 1, 9, 0, 0).wall(50, 1, 0, 1, 0).view();
        use(view);
        rest(view, 20);
        S.dueSector("it goes DOWN", view, 0, floor, ceiling, 9, 0, -1);
        return view;
    }

    private static void doorOnWalker() {
        SectorView view = under(0, 64);
        rest(view, 1);
        S.dueSector("56 are left", view, 0, 0, 56, 9, 0, -1);
        rest(view, 1);
        S.dueSector("48 would be", view, 0, 0, 56, 9, 0, 1);
        view = under(0, 63);
        rest(view, 1);
        S.dueSector("55 would be left", view, 0, 0, 63, 9, 0, 1);
        view = under(-100, -36);
        rest(view, 1);
        S.dueSector("56 are left", view, 0, -100, -44, 9, 0, -1);
        rest(view, 1);
        S.dueSector("48 would be", view, 0, -100, -44, 9, 0, 1);
        view = under(0, 20);
        rest(view, 1);
        S.dueSector("there were less than 56 already", view, 0, 0, 20, 9, 0, 1);
        SectorView other = new Corridor().sector(0, 64, 9, 0, 0).sector(0, 64, 9, 0, 7).wall(50, 0, 1, 1, 0).view();
        use(other);
        rest(other, 20 + 2);
        S.dueSector("the walker is in another one", other, 1, 0, 48, 9, 0, -1);
        SectorView stepsIn = new Corridor().sector(0, 100, 9, 0, 0).sector(0, 64, 9, 0, 7).wall(50, 0, 1, 1, 0).view();
        use(stepsIn);
        rest(stepsIn, 3 + 20 + 4);
        S.dueSector("64 are left", stepsIn, 1, 0, 64, 9, 0, -1);
        S.due("the walker steps in", stepsIn.stepBy(60, 0, 0, false), 1);
        S.dueSector("56 are left", stepsIn, 1, 0, 56, 9, 0, -1);
        rest(stepsIn, 1);
        S.dueSector("not less, where the walker is now", stepsIn, 1, 0, 56, 9, 0, 1);
    }

    private static void doorUpAgain() {
        SectorView view = under(0, 75);
        rest(view, 2);
        S.dueSector("59 are left", view, 0, 0, 59, 9, 0, -1);
        rest(view, 1);
        S.dueSector("not done", view, 0, 0, 59, 9, 0, 1);
        rest(view, 1);
        S.dueSector("up from the next TICK on", view, 0, 0, 67, 9, 0, 1);
        rest(view, 1);
        S.dueSector("to the same TOP", view, 0, 0, 75, 9, 0, 0);
        rest(view, 20);
        S.dueSector("it has waited 20 again", view, 0, 0, 75, 9, 0, -1);
        rest(view, 3);
        S.dueSector("and again", view, 0, 0, 59, 9, 0, 1);
        view = under(0, 60);
        rest(view, 1);
        S.dueSector("at once", view, 0, 0, 60, 9, 0, 1);
        rest(view, 1);
        S.dueSector("a step of nothing", view, 0, 0, 60, 9, 0, 0);
    }

    /** The walker is in sector 0, which a crossed wall moves; its neighbour's floor is another one. */
    private static SectorView moved(int kind, int floor, int ceiling, int otherFloor) {
        SectorView view = new Corridor().sector(floor, ceiling, 9, 0, 7).sector(otherFloor, 400, 9, 0, 0)
            .wall(20, 0, 0, kind, 7).wall(90, 0, 1, 0, 0).view();
        view.stepBy(30, 0, 0, false);
        return view;
    }

    private static void liftedWalker() {
        int[][] risers = {{57, 0}, {58, 2}, {59, 2}, {60, 4}, {61, 4}};
        for (int[] r : risers) {
            SectorView view = moved(5, 0, r[0], 9);
            rest(view, 9);
            S.dueSector("a riser under " + r[0], view, 0, r[1], r[0], 9, 2, 1);
            S.due("EYE", view.walkerOf(4), r[1] + 41);
        }
        SectorView last = moved(5, 0, 65, 9);
        rest(last, 4);
        S.dueSector("the last step leaves 56", last, 0, 9, 65, 9, -1, 0);
        last = moved(5, 0, 64, 9);
        rest(last, 9);
        S.dueSector("the last step would leave 55", last, 0, 8, 64, 9, 2, 1);
        SectorView out = new Corridor().sector(0, 57, 9, 0, 7).sector(0, 400, 9, 0, 0).sector(9, 400, 9, 0, 0)
            .wall(20, 0, 0, 5, 7).wall(60, 0, 1, 0, 0).wall(200, 0, 2, 0, 0).view();
        out.stepBy(30, 0, 0, false);
        rest(out, 5);
        S.dueSector("held up", out, 0, 0, 57, 9, 2, 1);
        S.due("the walker steps out", out.stepBy(40, 0, 0, false), 1);
        S.dueSector("it goes on at once", out, 0, 2, 57, 9, 2, 1);
        liftHeldUp();
    }

    private static void liftHeldUp() {
        // The lift's way is 20 .. 0; with 72 above 0 the walker can ride to 16.
        SectorView view = lift(20, 72).view();
        use(view);
        rest(view, 4);
        S.dueSector("down", view, 1, 0, 72, 9, 1, 0);
        S.due("onto it", view.stepBy(60, 0, 0, false), 1);
        rest(view, 29 + 4);
        S.dueSector("56 are left", view, 1, 16, 72, 9, 1, 1);
        rest(view, 5);
        S.dueSector("less would be", view, 1, 16, 72, 9, 1, 1);
        S.due("off it", view.stepBy(-60, 0, 0, false), 1);
        S.dueSector("tried again at each TICK", view, 1, 20, 72, 9, -1, 0);
        SectorView down = new Corridor().sector(0, 30, 9, 0, 7).sector(-8, 400, 9, 0, 0).wall(50, 0, 1, 4, 7).view();
        use(down);
        S.dueSector("downwards it goes, however low it is", down, 0, -4, 30, 9, 1, -1);
        rest(down, 1 + 30);
        S.dueSector("up", down, 0, -8, 30, 9, 1, 1);
        rest(down, 3);
        S.dueSector("no step up", down, 0, -8, 30, 9, 1, 1);
    }

    private static void ticks() {
        SectorView view = new Corridor().sector(0, 100, 9, 0, 0).view();
        S.due("at START", view.walkerOf(5), 0);
        for (int i = 1; i <= 70; i++) {
            view.stepBy(0, 0, 0, i % 2 == 0);
            S.due("TICKS", view.walkerOf(5), i);
        }
        S.due("a wrong step is none", view.stepBy(99, 0, 0, false), -1);
        S.due("TICKS", view.walkerOf(5), 70);
        view.startAt(0, 0, 0, 0);
        S.due("at START", view.walkerOf(5), 0);
    }

    private static void allMove() {
        Corridor many = new Corridor().wall(20, 0, 0, 2, 9).wall(50, 0, 31, 0, 0);
        for (int i = 0; i < 31; i++) {
            many.sector(i, 400, 9, 0, 9);
        }
        many.sector(-5, 400, 9, 0, 9);
        SectorView view = many.view();
        view.stepBy(30, 0, 0, false);
        S.due("all 32", view.lookAt(11), 32);
        S.dueSector("the first", view, 0, -4, 400, 9, 1, -1);
        S.dueSector("one in between", view, 17, 17, 400, 9, 1, 0);
        S.dueSector("the last", view, 31, -5, 400, 9, 1, 0);
        rest(view, 31);
        S.due("those without a way have ended", view.lookAt(11), 1);
    }

    private static void goesOn() {
        SectorView view = door(0, 96, 0, 100).view();
        use(view);
        rest(view, 19);
        S.dueSector("one is left", view, 1, 0, 96, 9, 0, 0);
        rest(view, 1);
        S.dueSector("none is left: no step yet", view, 1, 0, 96, 9, 0, -1);
        rest(view, 1);
        S.dueSector("the next TICK", view, 1, 0, 88, 9, 0, -1);
        view = lift(4, 400).view();
        use(view);
        rest(view, 29);
        S.dueSector("one is left", view, 1, 0, 400, 9, 1, 0);
        rest(view, 1);
        S.dueSector("none is left: no step yet", view, 1, 0, 400, 9, 1, 1);
        rest(view, 1);
        S.dueSector("the next TICK", view, 1, 4, 400, 9, -1, 0);
    }

    // The TICK that ends a way is none of those it waits: 1 + 20 lie between the last step up and the first one down.
    private static void waitsFromTheNext() {
        SectorView view = door(0, 80, 0, 100).view();
        use(view);
        rest(view, 1);
        S.dueSector("at its TOP", view, 1, 0, 96, 9, 0, 0);
        rest(view, 20);
        S.due("TICKS", view.walkerOf(5), 22);
        S.due("no step yet", view.sectorOf(1, 1), 96);
        rest(view, 1);
        S.due("the first step down", view.sectorOf(1, 1), 88);
        view = lift(8, 400).view();
        use(view);
        rest(view, 1 + 30);
        S.due("no step yet", view.sectorOf(1, 0), 0);
        rest(view, 1);
        S.due("the first step up", view.sectorOf(1, 0), 4);
    }

    private static void endsAtOnce() {
        SectorView view = riserStarted(-2, 400);
        S.dueSector("a riser that has come to its end", view, 1, 0, 400, 9, -1, 0);
        S.due("MOVERS", view.lookAt(11), 0);
        view = lift(4, 400).view();
        use(view);
        rest(view, 30);
        S.due("MOVERS", view.lookAt(11), 1);
        rest(view, 1);
        S.due("MOVERS", view.lookAt(11), 0);
        use(view);
        S.dueSector("a new one at the next step", view, 1, 0, 400, 9, 1, 0);
        view = door(392, 396).view();
        use(view);
        rest(view, 20);
        S.due("MOVERS", view.lookAt(11), 1);
        rest(view, 1);
        S.due("MOVERS", view.lookAt(11), 0);
        use(view);
        S.dueSector("a new one at the next step", view, 1, 392, 396, 9, 0, 0);
    }

    private static void blinking() {
        SectorView view = new Corridor().sector(0, 100, 15, 1, 0).sector(0, 100, 14, 1, 0).sector(0, 100, 1, 1, 0).sector(0, 100, 0, 1, 0).view();
        for (int tick = 0; tick <= 52; tick++) {
            boolean bright = tick <= 3 || tick >= 16 && tick <= 19 || tick >= 32 && tick <= 35 || tick >= 48 && tick <= 51;
            S.due("15 at " + tick, view.sectorOf(0, 2), bright ? 15 : 7);
            S.due("14 at " + tick, view.sectorOf(1, 2), bright ? 14 : 7);
            S.due("1 at " + tick, view.sectorOf(2, 2), bright ? 1 : 0);
            S.due("0 at " + tick, view.sectorOf(3, 2), 0);
            rest(view, 1);
        }
    }

    private static void switching() {
        SectorView view = new Corridor().sector(0, 100, 15, 2, 0).sector(0, 100, 1, 2, 0).view();
        for (int tick = 0; tick <= 130; tick++) {
            boolean bright = tick <= 31 || tick >= 64 && tick <= 95 || tick >= 128;
            S.due("15 at " + tick, view.sectorOf(0, 2), bright ? 15 : 0);
            S.due("1 at " + tick, view.sectorOf(1, 2), bright ? 1 : 0);
            rest(view, 1);
        }
    }

    private static void dimming() {
        Corridor many = new Corridor().wall(20, 0, 0, 2, 9);
        many.sector(0, 400, 15, 0, 0).sector(0, 400, 15, 3, 0).sector(0, 400, 3, 3, 0).sector(0, 400, 2, 3, 9).sector(0, 400, 0, 3, 9);
        many.sector(0, 400, 9, 3, 9);
        SectorView view = many.view();
        S.due("no MOVER", view.sectorOf(1, 2), 15);
        S.due("no MOVER", view.sectorOf(2, 2), 3);
        S.due("no MOVER", view.sectorOf(4, 2), 0);
        view.stepBy(30, 0, 0, false);
        S.due("MOVERS", view.lookAt(11), 3);
        S.due("15 less 3", view.sectorOf(1, 2), 12);
        S.due("3 less 3", view.sectorOf(2, 2), 0);
        S.due("2 less 3", view.sectorOf(3, 2), 0);
        S.due("0 less 3", view.sectorOf(4, 2), 0);
        S.due("9 less 3, whether it moves or not", view.sectorOf(5, 2), 6);
        S.due("KIND 0", view.sectorOf(0, 2), 15);
        rest(view, 31);
        S.due("no MOVER any more", view.sectorOf(2, 2), 3);
    }

    private static void whats() {
        SectorView view = new Corridor().sector(-1024, 1024, 15, 0, 0).sector(1023, 1024, 0, 0, 0).view();
        S.dueSector("the first", view, 0, -1024, 1024, 15, -1, 0);
        S.dueSector("the last", view, 1, 1023, 1024, 0, -1, 0);
        view = door(0, 40).view();
        use(view);
        S.due("a DOOR", view.sectorOf(1, 3), 0);
        S.due("none", view.sectorOf(0, 3), -1);
        view = lift(40, 400).view();
        use(view);
        S.due("a LIFT", view.sectorOf(1, 3), 1);
        S.due("a RISER", riserStarted(-40, 400).sectorOf(1, 3), 2);
    }

    private static void ways() {
        SectorView view = door(0, 90, 0, 100).view();
        S.due("none", view.sectorOf(1, 4), 0);
        use(view);
        S.due("it WAITS", view.sectorOf(1, 4), 0);
        rest(view, 20);
        S.due("down", view.sectorOf(1, 4), -1);
        view = door(0, 80, 0, 100).view();
        use(view);
        S.due("up", view.sectorOf(1, 4), 1);
        view = under(0, 60);
        rest(view, 1);
        S.due("up, as the step down is not done", view.sectorOf(0, 4), 1);
        view = moved(5, 0, 56, 9);
        S.due("up, though the step is not done", view.sectorOf(0, 4), 1);
        view = lift(20, 400).view();
        use(view);
        S.due("down", view.sectorOf(1, 4), -1);
        rest(view, 4);
        S.due("it WAITS", view.sectorOf(1, 4), 0);
        rest(view, 30);
        S.due("up", view.sectorOf(1, 4), 1);
        rest(view, 5);
        S.due("none any more", view.sectorOf(1, 4), 0);
    }

    private static void wrongOnes() {
        SectorView view = door(0, 90).view();
        for (int what : new int[] {-1, 5, Integer.MIN_VALUE, Integer.MAX_VALUE}) {
            S.due("sectorOf(0, " + what + ")", view.sectorOf(0, what), 100000);
        }
        for (int sector : new int[] {-1, 2, 31, 32, Integer.MIN_VALUE, Integer.MAX_VALUE}) {
            S.due("sectorOf(" + sector + ", 0)", view.sectorOf(sector, 0), 100000);
        }
        S.due("the last one there is", view.sectorOf(1, 4), 0);
        for (int what = 0; what < 5; what++) {
            S.due("without a MAP", new SectorView().sectorOf(0, what), 100000);
        }
    }
}
