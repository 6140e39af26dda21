/** The boundary sentences of A STEP, of the directions, and of promises 14 and 15: stepBy and walkerOf. */
public final class EdgesOfStepsTest {
    private static final Sentences S = new Sentences();
    private static final int NO = MapMaker.NO;
    private static final int LEAST = Integer.MIN_VALUE;
    private static final int MOST = Integer.MAX_VALUE;

    public static void main(String[] args) {
        S.test("K(a) for 0 .. 16, -K(32 - a) for 17 .. 32, -K(a - 32) for 33 .. 48, K(64 - a) for 49 .. 63",
            EdgesOfStepsTest::directions);
        S.test("S(a) is C of a - 16 modulo 64.", EdgesOfStepsTest::sines);
        S.test("the ANGLE is its turn more, modulo 64", EdgesOfStepsTest::turns);
        S.test("each of x and y rounded down", EdgesOfStepsTest::roundedDown);
        S.test("If M is not (0, 0)", EdgesOfStepsTest::noWay);
        S.test("MEETS with R up to 1", EdgesOfStepsTest::upToOne);
        S.test("(those that are passed over count, too) are CROSSED, in their order.", EdgesOfStepsTest::crossedInOrder);
        S.test("One STOPS it if it has no BACK sector", EdgesOfStepsTest::noBack);
        S.test("or the FLOOR of FAR is more than 24 above that of NEAR", EdgesOfStepsTest::highSteps);
        S.test("or the lower CEILING of both is less than 56 above the higher FLOOR", EdgesOfStepsTest::lowOpenings);
        S.test("E + M is within -40000 .. 40000 each", EdgesOfStepsTest::farthest);
        S.test("the SECTOR is FAR of the last CROSSED one (as it was, if there is none)", EdgesOfStepsTest::sectors);
        S.test("each CROSSED WALL, in their order, of KIND 2, 3, 5 starts a LIFT, a DOOR, a RISER in all SECTORS with its TAG"
            + " (0 like any other), by their numbers", EdgesOfStepsTest::startsByCrossing);
        S.test("if the INPUT USES (whether it went or not, E and ANGLE being what they are now)", EdgesOfStepsTest::usesWhereItIs);
        S.test("the first WALL that a RAY from E in direction AHEAD MEETS (one that is passed over counts, too)",
            EdgesOfStepsTest::usesTheFirst);
        S.test("if its R is up to 1 / 4", EdgesOfStepsTest::usesUpToQuarter);
        S.test("and it is met from its FRONT", EdgesOfStepsTest::usesFromFront);
        S.test("if its KIND is 1, it starts a DOOR in its BACK sector, if there is one; if it is 4, a LIFT in all SECTORS with its TAG.",
            EdgesOfStepsTest::usesKinds);
        S.test("Then there is a TICK.", EdgesOfStepsTest::oneTick);
        S.test("One STEP by such an INPUT, which is none of THE RUN", EdgesOfStepsTest::noneOfTheRun);
        S.test("1 if it went, 0 if M was (0, 0), 2 if it went no way else", EdgesOfStepsTest::answers);
        S.test("(stopped, or beyond -40000 .. 40000; all else of the STEP is done all the same)", EdgesOfStepsTest::elseDone);
        S.test("NONE without a MAP, or if one of these is not as said.", EdgesOfStepsTest::wrongSteps);
        S.test("what 0: x, 1: y, 2: ANGLE, 3: SECTOR, 4: EYE, 5: TICKS.", EdgesOfStepsTest::walker);
        S.test("100000 without a MAP, or if there is no such what.", EdgesOfStepsTest::wrongWalker);
        S.end();
    }

    private static SectorView open() {
        return new Corridor().sector(0, 100, 9, 0, 0).view();
    }

    private static SectorView two(int floor, int ceiling, int otherFloor, int otherCeiling) {
        return new Corridor().sector(floor, ceiling, 9, 0, 0).sector(otherFloor, otherCeiling, 9, 0, 0).wall(30, 0, 1, 0, 0).view();
    }

    // The document's numbers are the cosines times 256, rounded to the nearest.
    private static int nearest(double share) {
        return (int) Math.rint(256 * share);
    }

    private static void dueWay(int angle, int ahead, int from, int to) {
        SectorView view = open();
        int c = nearest(Math.cos(Math.PI * angle / 32));
        int s = nearest(Math.sin(Math.PI * angle / 32));
        for (int aside = from; aside <= to; aside++) {
            view.startAt(0, 0, angle, 0);
            view.stepBy(ahead, aside, 0, false);
            String what = "angle " + angle + ", " + ahead + " ahead, " + aside + " aside";
            S.dueWalker(what, view, Math.floorDiv(c * ahead + s * aside, 256), Math.floorDiv(s * ahead - c * aside, 256));
        }
    }

    private static void directions() {
        for (int angle = 0; angle < 64; angle++) {
            for (int ahead : new int[] {64, 63, -64}) {
                dueWay(angle, ahead, -64, 0);
                dueWay(angle, ahead, 1, 64);
            }
        }
    }

    private static void sines() {
        int[][] ways = {{0, 64, 0}, {15, 6, 63}, {16, 0, 64}, {17, -7, 63}, {32, -64, 0}, {48, 0, -64}, {63, 63, -7}};
        for (int[] w : ways) {
            SectorView view = open();
            view.startAt(0, 0, w[0], 0);
            view.stepBy(64, 0, 0, false);
            S.dueWalker("angle " + w[0], view, w[1], w[2]);
        }
    }

    private static void turns() {
        int[][] turns = {{63, 1, 0}, {0, -1, 63}, {48, 16, 0}, {49, 15, 0}, {60, 16, 12}, {16, -16, 0}, {15, -16, 63}, {0, -16, 48},
            {63, 16, 15}, {5, 0, 5}};
        for (int[] t : turns) {
            SectorView view = open();
            view.startAt(0, 0, t[0], 0);
            view.stepBy(0, 0, t[1], false);
            S.due(t[0] + " and " + t[1], view.walkerOf(2), t[2]);
        }
        SectorView view = open();
        view.stepBy(64, 0, 16, false);
        S.dueWalker("it turns ahead of its way", view, 0, 64, 16);
    }

    private static void dueRounded(int angle, int ahead, int aside, int x, int y) {
        SectorView view = open();
        view.startAt(0, 0, angle, 0);
        view.stepBy(ahead, aside, 0, false);
        S.dueWalker(angle + ": " + ahead + ", " + aside, view, x, y);
    }

    private static void roundedDown() {
        dueRounded(1, 1, 0, 0, 0);
        dueRounded(1, -1, 0, -1, -1);
        dueRounded(63, 1, 0, 0, -1);
        dueRounded(63, -1, 0, -1, 0);
        dueRounded(31, 1, 0, -1, 0);
        dueRounded(33, 1, 0, -1, -1);
        dueRounded(8, 64, 0, 45, 45);
        dueRounded(8, -64, 0, -46, -46);
        dueRounded(8, 64, 64, 90, 0);
        dueRounded(8, -64, -64, -91, 0);
        dueRounded(0, 0, 1, 0, -1);
        dueRounded(0, 0, -1, 0, 1);
    }

    private static void noWay() {
        SectorView view = new Corridor().sector(0, 100, 9, 0, 0).solid(1, 0).view();
        S.due("nothing", view.stepBy(0, 0, 0, false), 0);
        S.due("less than 1 each", view.stepBy(1, 0, 1, false), 0);
        view.startAt(0, 0, 63, 0);
        S.due("y alone", view.stepBy(1, 0, 0, false), 1);
        S.dueWalker("y alone", view, 0, -1);
        view.startAt(0, 0, 16, 0);
        S.due("x alone", view.stepBy(0, -1, 0, false), 1);
        S.dueWalker("x alone", view, -1, 0);
        view.startAt(0, 0, 0, 0);
        S.due("the wall is 1 away", view.stepBy(1, 0, 0, false), 2);
    }

    private static void upToOne() {
        SectorView view = two(0, 100, 1, 100);
        S.due("29 of 30", view.stepBy(29, 0, 0, false), 1);
        S.due("not crossed", view.walkerOf(3), 0);
        S.due("1 of 1", view.stepBy(1, 0, 0, false), 1);
        S.due("R of 1", view.walkerOf(3), 1);
        view.stepBy(5, 0, 0, false);
        S.due("R of 0 is no meeting", view.walkerOf(3), 1);
        view.stepBy(-5, 0, 0, false);
        S.due("back onto it", view.walkerOf(3), 0);
        SectorView shut = new Corridor().sector(0, 100, 9, 0, 0).solid(30, 0).view();
        S.due("up to one ahead of a wall", shut.stepBy(29, 0, 0, false), 1);
        S.due("onto it", shut.stepBy(1, 0, 0, false), 2);
        SectorView least = Give.withMap(Edges.least().vertex(1, 1).vertex(1, -1).plainWall(0, 1, 0, NO, 0, 0));
        S.due("a wall of 2, 1 away", least.stepBy(1, 0, 0, false), 2);
        least.startAt(2, 0, 32, 0);
        S.due("from behind", least.stepBy(1, 0, 0, false), 2);
        SectorView slant = Give.withMap(Edges.least().vertex(-1, -2).vertex(4, 1).plainWall(1, 0, 0, NO, 0, 0));
        slant.startAt(0, 0, 0, 0);
        S.due("R of 7 / 3", slant.stepBy(1, 0, 0, false), 1);
        S.due("R of 4 / 3", slant.stepBy(1, 0, 0, false), 1);
        S.due("R of 1 / 3", slant.stepBy(1, 0, 0, false), 2);
    }

    private static void crossedInOrder() {
        SectorView view = new Corridor().sector(0, 100, 9, 0, 0).sector(1, 100, 9, 0, 0).sector(2, 100, 9, 0, 0)
            .wall(40, 1, 2, 0, 0).wall(20, 0, 1, 0, 0).view();
        view.stepBy(50, 0, 0, false);
        S.due("the last is the farther one, whatever its number", view.walkerOf(3), 2);
        view.stepBy(-50, 0, 0, false);
        S.due("back", view.walkerOf(3), 0);
        Corridor passed = new Corridor().sector(0, 100, 9, 0, 0);
        passed.map.vertex(30, -200).vertex(30, 200).plainWall(0, 1, 0, NO, 0, 0);
        S.due("one that is passed over stops it", passed.view().stepBy(40, 0, 0, false), 2);
        S.due("not where it does not come to it", passed.view().stepBy(29, 0, 0, false), 1);
        crossedAtQuotients();
        MapMaker fan = new MapMaker().texture(0, 0, 0);
        for (int i = 0; i < 4; i++) {
            fan.sector(i, 100, 0, 0, 0, 0, 0);
        }
        fan.vertex(10, 0).vertex(20, -10).vertex(30, -10).vertex(40, -10)
            .plainWall(0, 3, 0, 3, 0, 0).plainWall(0, 1, 0, 1, 0, 0).plainWall(0, 2, 0, 2, 0, 0);
        SectorView same = Give.withMap(fan);
        same.stepBy(20, 0, 0, false);
        S.due("of the same R the last is that of the highest number", same.walkerOf(3), 2);
    }

    // Two walls across a step of 60, the nearer or the farther one having the lower number: R is 1 / 4, 4 / 15, 3 / 10, ..
    private static void crossedAtQuotients() {
        int[] places = {15, 16, 18, 20, 24, 25, 30, 36, 40, 42, 45, 50, 60};
        for (int first : places) {
            for (int second : places) {
                if (first != second) {
                    SectorView view = new Corridor().sector(0, 200, 9, 0, 0).sector(1, 200, 9, 0, 0).sector(2, 200, 9, 0, 0)
                        .wall(first, 0, 1, 0, 0).wall(second, 0, 2, 0, 0).view();
                    view.stepBy(60, 0, 0, false);
                    S.due("walls at " + first + " and " + second, view.walkerOf(3), first > second ? 1 : 2);
                }
            }
        }
    }

    private static void noBack() {
        Corridor shut = new Corridor().sector(0, 100, 9, 0, 0).solid(30, 0);
        S.due("none", shut.view().stepBy(40, 0, 0, false), 2);
        Corridor same = new Corridor().sector(0, 100, 9, 0, 0).wall(30, 0, 0, 0, 0);
        S.due("the same one", same.view().stepBy(40, 0, 0, false), 1);
        Corridor second = new Corridor().sector(0, 100, 9, 0, 0).wall(20, 0, 0, 0, 0).solid(30, 0);
        S.due("the second one has none", second.view().stepBy(40, 0, 0, false), 2);
        S.due("it is not come to", second.view().stepBy(25, 0, 0, false), 1);
    }

    private static void highSteps() {
        S.due("24", two(0, 200, 24, 200).stepBy(40, 0, 0, false), 1);
        S.due("25", two(0, 200, 25, 200).stepBy(40, 0, 0, false), 2);
        S.due("24 from below 0", two(-20, 200, 4, 200).stepBy(40, 0, 0, false), 1);
        S.due("25 from below 0", two(-20, 200, 5, 200).stepBy(40, 0, 0, false), 2);
        S.due("down as far as can be", two(900, 1024, -1024, 1024).stepBy(40, 0, 0, false), 1);
        SectorView view = two(24, 200, 0, 200);
        view.startAt(40, 0, 32, 1);
        S.due("24 from the back", view.stepBy(40, 0, 0, false), 1);
        view = two(25, 200, 0, 200);
        view.startAt(40, 0, 32, 1);
        S.due("25 from the back", view.stepBy(40, 0, 0, false), 2);
        view.startAt(0, 0, 0, 1);
        S.due("NEAR is the wall's side, not where the walker is", view.stepBy(40, 0, 0, false), 1);
    }

    private static void lowOpenings() {
        S.due("56 there", two(0, 200, 0, 56).stepBy(40, 0, 0, false), 1);
        S.due("55 there", two(0, 200, 0, 55).stepBy(40, 0, 0, false), 2);
        S.due("56 here", two(0, 56, 0, 200).stepBy(40, 0, 0, false), 1);
        S.due("55 here", two(0, 55, 0, 200).stepBy(40, 0, 0, false), 2);
        S.due("56 between its ceiling and the other floor", two(0, 66, 10, 200).stepBy(40, 0, 0, false), 1);
        S.due("55 between its ceiling and the other floor", two(0, 65, 10, 200).stepBy(40, 0, 0, false), 2);
        S.due("56 between its floor and the other ceiling", two(0, 200, -90, 56).stepBy(40, 0, 0, false), 1);
        S.due("55 between its floor and the other ceiling", two(0, 200, -90, 55).stepBy(40, 0, 0, false), 2);
        S.due("none at all", two(0, 200, -90, -10).stepBy(40, 0, 0, false), 2);
    }

    private static SectorView outAt(int x, int y) {
        SectorView view = open();
        view.startAt(Math.max(-32768, Math.min(32767, x)), Math.max(-32768, Math.min(32767, y)), 0, 0);
        for (int i = 0; i < 120; i++) {
            int ahead = Math.max(-64, Math.min(64, x - view.walkerOf(0)));
            int aside = Math.max(-64, Math.min(64, view.walkerOf(1) - y));
            if (ahead != 0 || aside != 0) {
                view.stepBy(ahead, aside, 0, false);
            }
        }
        return view;
    }

    private static void dueOut(int x, int y, int ahead, int aside) {
        SectorView view = outAt(x, y);
        S.dueWalker("as far as can be", view, x, y);
        S.due("one farther", view.stepBy(ahead, aside, 0, false), 2);
        S.dueWalker("where it was", view, x, y);
        S.due("one back", view.stepBy(-ahead, -aside, 0, false), 1);
        S.dueWalker("one back", view, x - ahead, y + aside);
        S.due("two on", view.stepBy(2 * ahead, 2 * aside, 0, false), 2);
        S.due("one on", view.stepBy(ahead, aside, 0, false), 1);
        S.dueWalker("as far as can be", view, x, y);
    }

    private static void farthest() {
        dueOut(40000, 0, 1, 0);
        dueOut(-40000, 0, -1, 0);
        dueOut(0, 40000, 0, -1);
        dueOut(0, -40000, 0, 1);
        SectorView view = outAt(40000, 7);
        S.due("x too far, y not", view.stepBy(1, 5, 0, false), 2);
        S.dueWalker("neither of them", view, 40000, 7);
    }

    private static void sectors() {
        SectorView view = two(0, 100, 1, 100);
        view.stepBy(10, 0, 0, false);
        S.due("none crossed", view.walkerOf(3), 0);
        view.startAt(0, 0, 0, 1);
        view.stepBy(10, 0, 0, false);
        S.due("none crossed: wherever it is", view.walkerOf(3), 1);
        view.stepBy(-10, 0, 0, false);
        view.stepBy(40, 0, 0, false);
        S.due("FAR, wherever it was", view.walkerOf(3), 1);
        view.startAt(0, 300, 0, 0);
        view.stepBy(40, 0, 0, false);
        S.due("beside the wall", view.walkerOf(3), 0);
        view = two(0, 100, 0, 30);
        view.stepBy(40, 0, 0, false);
        S.due("stopped", view.walkerOf(3), 0);
    }

    /** A wall at 20 that starts something in sectors 0 and 2 of tag, but not in 1. */
    private static SectorView starter(int kind, int tag, int other) {
        return new Corridor().sector(0, 200, 9, 0, tag).sector(50, 150, 9, 0, other).sector(0, 90, 9, 0, tag)
            .wall(20, 0, 0, kind, tag).wall(300, 0, 1, 0, 0).view();
    }

    private static void startsByCrossing() {
        int[] movers = {-1, -1, 1, 0, -1, 2};
        for (int kind = 0; kind < 6; kind++) {
            for (int[] tags : new int[][] {{0, 1}, {255, 0}, {255, 254}, {7, 255}}) {
                SectorView view = starter(kind, tags[0], tags[1]);
                view.stepBy(19, 0, 0, false);
                S.due("not crossed", view.lookAt(11), 0);
                view.stepBy(1, 0, 0, false);
                // A RISER in sector 2 has no way, so it is over by now.
                int second = kind == 5 ? -1 : movers[kind];
                S.due("kind " + kind + ", tag " + tags[0], view.sectorOf(0, 3), movers[kind]);
                S.due("another tag", view.sectorOf(1, 3), -1);
                S.due("kind " + kind + ", tag " + tags[0], view.sectorOf(2, 3), second);
                view.startAt(30, 0, 0, 0);
                view.stepBy(-20, 0, 0, false);
                S.due("kind " + kind + " from its back", view.sectorOf(0, 3), movers[kind]);
            }
        }
        SectorView order = new Corridor().sector(0, 200, 9, 0, 4).sector(60, 300, 9, 0, 0)
            .wall(40, 0, 0, 2, 4).wall(20, 0, 0, 3, 4).wall(300, 0, 1, 0, 0).view();
        order.stepBy(50, 0, 0, false);
        S.due("the nearer one is first", order.sectorOf(0, 3), 0);
        SectorView none = new Corridor().sector(0, 200, 9, 0, 4).wall(20, 0, 0, 2, 5).view();
        S.due("no sector with its tag", none.stepBy(30, 0, 0, false), 1);
        S.due("nothing starts", none.lookAt(11), 0);
        SectorView stopped = new Corridor().sector(0, 200, 9, 0, 4).wall(20, 0, 0, 2, 4).solid(30, 0).view();
        S.due("stopped behind it", stopped.stepBy(40, 0, 0, false), 2);
        S.due("nothing starts", stopped.lookAt(11), 0);
    }

    private static Corridor used(int x, int kind) {
        return new Corridor().sector(0, 100, 9, 0, 3).sector(0, 50, 9, 0, 4).wall(x, 0, 1, kind, 3);
    }

    private static void usesWhereItIs() {
        SectorView view = used(70, 1).view();
        view.stepBy(5, 0, 0, true);
        S.due("65 away", view.lookAt(11), 0);
        view.stepBy(1, 0, 0, true);
        S.due("64 away", view.lookAt(11), 1);
        view = used(64, 1).view();
        view.stepBy(-1, 0, 0, true);
        S.due("65 away", view.lookAt(11), 0);
        view = used(30, 1).view();
        S.due("stopped", view.stepBy(40, 0, 0, true), 2);
        S.due("it uses all the same", view.sectorOf(1, 3), 0);
        view = used(30, 1).view();
        view.stepBy(0, 0, 16, true);
        S.due("it has turned away", view.lookAt(11), 0);
        S.due("no way", view.stepBy(0, 0, -16, true), 0);
        S.due("it has turned back", view.sectorOf(1, 3), 0);
        view = used(30, 1).view();
        view.stepBy(0, 0, 0, false);
        S.due("it does not use", view.lookAt(11), 0);
    }

    private static void usesTheFirst() {
        SectorView view = used(40, 1).wall(30, 0, 0, 0, 0).view();
        view.stepBy(0, 0, 0, true);
        S.due("another one is ahead of it", view.lookAt(11), 0);
        view = used(30, 1).wall(40, 0, 0, 0, 0).view();
        view.stepBy(0, 0, 0, true);
        S.due("another one is behind it", view.lookAt(11), 1);
        view = used(30, 1).view();
        S.due("it is seen", view.metAt(31, 0), 0);
        view.stepBy(0, 0, 16, true);
        S.due("none is ahead any more", view.lookAt(11), 0);
        Corridor passed = used(40, 1);
        passed.map.vertex(30, -200).vertex(30, 200).plainWall(2, 3, 0, NO, 0, 0);
        view = passed.view();
        view.stepBy(0, 0, 0, true);
        S.due("one that is passed over", view.lookAt(11), 0);
        MapMaker fan = new MapMaker().texture(0, 0, 0).sector(0, 100, 0, 0, 0, 0, 0).sector(0, 50, 0, 0, 0, 0, 0)
            .vertex(10, 0).vertex(20, -10).vertex(30, -10).plainWall(0, 1, 0, 0, 0, 0).plainWall(0, 2, 0, 1, 1, 0);
        view = Give.withMap(fan);
        view.stepBy(0, 0, 0, true);
        S.due("of the same R that of the lower number", view.lookAt(11), 0);
        fan.walls.add(fan.walls.remove(0));
        view = Give.withMap(fan);
        view.stepBy(0, 0, 0, true);
        S.due("of the same R that of the lower number", view.lookAt(11), 1);
        S.due("no wall at all", open().stepBy(0, 0, 0, true), 0);
    }

    private static void dueUsed(int angle, boolean reached, int ax, int ay, int bx, int by) {
        MapMaker map = new MapMaker().texture(0, 0, 0).sector(0, 100, 0, 0, 0, 0, 0).sector(0, 50, 0, 0, 0, 0, 0)
            .vertex(ax, ay).vertex(bx, by).plainWall(0, 1, 0, 1, 1, 0).start(0, 0, angle, 0);
        SectorView view = Give.withMap(map);
        view.stepBy(0, 0, 0, true);
        S.due("angle " + angle + ", " + ax + ", " + ay, view.lookAt(11), reached ? 1 : 0);
    }

    private static void usesUpToQuarter() {
        dueUsed(0, true, 64, 200, 64, -200);
        dueUsed(0, false, 65, 200, 65, -200);
        dueUsed(16, true, -200, 64, 200, 64);
        dueUsed(16, false, -200, 65, 200, 65);
        dueUsed(32, true, -64, -200, -64, 200);
        dueUsed(32, false, -65, -200, -65, 200);
        dueUsed(48, true, 200, -64, -200, -64);
        dueUsed(48, false, 200, -65, -200, -65);
        dueUsed(1, true, 63, 200, 63, -200);
        dueUsed(1, false, 64, 200, 64, -200);
        dueUsed(0, true, 63, 200, 65, -200);
        dueUsed(0, true, 63, 100, 66, -200);
        dueUsed(0, false, 63, 101, 66, -200);
        dueUsed(0, true, 1, 200, 1, -200);
    }

    private static void usesFromFront() {
        dueUsed(0, true, 30, 200, 30, -200);
        dueUsed(0, false, 30, -200, 30, 200);
        SectorView view = used(30, 1).view();
        view.startAt(30, 0, 0, 0);
        view.stepBy(0, 0, 0, true);
        S.due("from on it", view.lookAt(11), 0);
        view.startAt(60, 0, 32, 0);
        view.stepBy(0, 0, 0, true);
        S.due("from its back", view.lookAt(11), 0);
        view.startAt(29, 0, 0, 0);
        view.stepBy(0, 0, 0, true);
        S.due("from 1 ahead of it", view.lookAt(11), 1);
    }

    private static void usesKinds() {
        for (int kind = 0; kind < 6; kind++) {
            SectorView view = used(30, kind).view();
            view.stepBy(0, 0, 0, true);
            S.due("kind " + kind + ", FRONT", view.sectorOf(0, 3), kind == 4 ? 1 : -1);
            S.due("kind " + kind + ", BACK", view.sectorOf(1, 3), kind == 1 ? 0 : -1);
        }
        SectorView view = new Corridor().sector(0, 100, 9, 0, 3).wall(30, 0, NO, 1, 3).view();
        view.stepBy(0, 0, 0, true);
        S.due("no BACK", view.lookAt(11), 0);
        view = new Corridor().sector(0, 100, 9, 0, 3).wall(30, 0, NO, 4, 3).view();
        view.stepBy(0, 0, 0, true);
        S.due("no BACK, a LIFT", view.sectorOf(0, 3), 1);
        view = new Corridor().sector(0, 100, 9, 0, 0).sector(0, 90, 9, 0, 1).sector(0, 90, 9, 0, 0).wall(30, 0, 1, 4, 0).view();
        view.stepBy(0, 0, 0, true);
        S.due("0 is a tag like any other", view.sectorOf(0, 3), 1);
        S.due("not the BACK", view.sectorOf(1, 3), -1);
        S.due("all with it", view.sectorOf(2, 3), 1);
    }

    private static void oneTick() {
        SectorView view = used(30, 1).view();
        view.stepBy(0, 0, 0, false);
        S.due("a step of nothing", view.walkerOf(5), 1);
        view.stepBy(5, 0, 0, false);
        S.due("a step that went", view.walkerOf(5), 2);
        view.stepBy(64, 0, 0, false);
        S.due("a step that is stopped", view.walkerOf(5), 3);
        view.stepBy(0, 0, 0, true);
        S.dueSector("what it starts takes a step at once", view, 1, 0, 58, 9, 0, 1);
        S.due("a step that uses", view.walkerOf(5), 4);
    }

    private static void noneOfTheRun() {
        SectorView view = open();
        view.addInput(5, 0, 0, false);
        S.due("stepBy", view.stepBy(7, 0, 0, false), 1);
        S.due("lookAt(4)", view.lookAt(4), 1);
        S.due("playTo(1)", view.playTo(1), 0);
        S.dueWalker("THE RUN alone", view, 5, 0, 0, 0, 41, 1);
        view.stepBy(7, 0, 0, false);
        S.due("a step goes on from there", view.walkerOf(0), 12);
    }

    private static void answers() {
        SectorView view = new Corridor().sector(0, 100, 9, 0, 0).solid(30, 0).view();
        S.due("it went", view.stepBy(29, 0, 0, false), 1);
        S.due("M was (0, 0)", view.stepBy(0, 0, 16, true), 0);
        view.startAt(29, 0, 0, 0);
        S.due("stopped", view.stepBy(64, 0, 0, true), 2);
        S.due("stopped", view.stepBy(1, 0, 0, true), 2);
        S.due("beyond", outAt(40000, 0).stepBy(1, 0, 0, false), 2);
        S.due("not beyond", outAt(40000, 0).stepBy(0, 1, 0, false), 1);
        S.due("beyond, but M is (0, 0)", outAt(40000, 0).stepBy(0, 0, 0, false), 0);
    }

    private static void elseDone() {
        SectorView view = used(30, 1).view();
        S.due("stopped", view.stepBy(40, 0, 1, true), 2);
        S.dueWalker("it turns, and there is a TICK", view, 0, 0, 1, 0, 41, 1);
        S.dueSector("it uses, and the door goes", view, 1, 0, 58, 9, 0, 1);
        view = outAt(40000, 0);
        int ticks = view.walkerOf(5);
        S.due("beyond", view.stepBy(64, 0, -1, false), 2);
        S.dueWalker("it turns, and there is a TICK", view, 40000, 0, 63, 0, 41, ticks + 1);
    }

    private static void wrongSteps() {
        S.due("without a MAP", new SectorView().stepBy(0, 0, 0, false), -1);
        SectorView view = open();
        for (int v : new int[] {-65, 65, 320, LEAST, MOST}) {
            S.due("stepBy(" + v + ", 0, 0)", view.stepBy(v, 0, 0, false), -1);
            S.due("stepBy(0, " + v + ", 0)", view.stepBy(0, v, 0, false), -1);
        }
        for (int v : new int[] {-17, 17, 64, LEAST, MOST}) {
            S.due("stepBy(0, 0, " + v + ")", view.stepBy(0, 0, v, false), -1);
        }
        S.dueWalker("no step, no TICK", view, 0, 0, 0, 0, 41, 0);
        S.due("the most of all", view.stepBy(64, 64, 16, true), 1);
        S.due("the least of all", view.stepBy(-64, -64, -16, false), 1);
    }

    private static void walker() {
        SectorView view = two(-1024, -900, -1023, 1024);
        S.dueWalker("at first", view, 0, 0, 0, 0, -983, 0);
        view.startAt(-32768, 32767, 63, 1);
        S.dueWalker("elsewhere", view, -32768, 32767, 63, 1, -982, 0);
        view.stepBy(0, 0, 0, false);
        S.due("TICKS", view.walkerOf(5), 1);
        S.dueWalker("as far as can be", outAt(-40000, 40000), -40000, 40000);
        SectorView high = two(1023, 1024, 0, 100);
        S.due("EYE of the highest floor", high.walkerOf(4), 1064);
    }

    private static void wrongWalker() {
        for (int what : new int[] {-1, 6, 100, LEAST, MOST}) {
            S.due("walkerOf(" + what + ")", open().walkerOf(what), 100000);
        }
        for (int what = -1; what <= 6; what++) {
            S.due("walkerOf(" + what + ") without a MAP", new SectorView().walkerOf(what), 100000);
        }
    }
}
