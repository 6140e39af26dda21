/** Promises 17 to 20: pixels, surfaces, the walls that are met and the frame, by hand and by the document's numbers. */
public final class ViewTest {
    private static final Checks CHECKS = new Checks();
    private static final int NO = MapMaker.NO;
    private static final int CEILING = 256;
    private static final int FLOOR = 512;
    private static final int SOLID = 768;
    private static final int UPPER = 1024;
    private static final int LOWER = 1280;
    private static final int SKY = 1536;

    public static void main(String[] args) {
        noWalls();
        solidWall();
        openings();
        pegs();
        fromTheBack();
        passedOver();
        ends();
        sky();
        shades();
        movingFloors();
        farAway();
        wrongPlaces();
        CHECKS.end();
    }

    /** 16 by 16; the texel of column u, row v is this. */
    private static int texel(int u, int v) {
        return (Math.floorMod(u, 16) + 3 * Math.floorMod(v, 16)) % 16;
    }

    private static MapMaker textured() {
        int[] texels = new int[256];
        for (int i = 0; i < 256; i++) {
            texels[i] = texel(i % 16, i / 16);
        }
        return new MapMaker().texture(4, 4, texels).texture(0, 1, 4, 11);
    }

    private static void surfaces(String what, SectorView view, int column, int... rowsAndSurfaces) {
        int row = 0;
        for (int i = 0; i < rowsAndSurfaces.length; i += 2) {
            for (; row < rowsAndSurfaces[i]; row++) {
                CHECKS.due(what + ": surfaceAt(" + column + ", " + row + ")", view.surfaceAt(column, row), rowsAndSurfaces[i + 1]);
            }
        }
        CHECKS.due(what + ": all rows", row, 48);
    }

    private static void mets(String what, SectorView view, int column, int... walls) {
        for (int i = 0; i < walls.length; i++) {
            CHECKS.due(what + ": metAt(" + column + ", " + i + ")", view.metAt(column, i), walls[i]);
        }
        CHECKS.due(what + ": metAt(" + column + ", " + walls.length + ")", view.metAt(column, walls.length), -1);
    }

    private static void pixel(String what, SectorView view, int column, int row, int texel, int shade) {
        CHECKS.due(what + ": pixelAt(" + column + ", " + row + ")", view.pixelAt(column, row), 16 * texel + shade);
    }

    private static void dueFrame(String what, SectorView view) {
        long sum = 0;
        for (int row = 0; row < 48; row++) {
            for (int column = 0; column < 64; column++) {
                sum = 31 * sum + view.pixelAt(column, row);
            }
        }
        CHECKS.due(what + ": frameOf()", view.frameOf(), sum);
    }

    private static void noWalls() {
        SectorView view = Give.withMap(textured().sector(0, 60, 0, 0, 15, 0, 0));
        surfaces("no walls", view, 0, 48, 0);
        pixel("no walls", view, 5, 5, 0, 0);
        mets("no walls", view, 9);
        CHECKS.due("frameOf()", view.frameOf(), 0);
    }

    private static MapMaker room(int pegs, int offsets) {
        return textured().sector(0, 60, 0, 0, 15, 0, 0).vertex(64, 100).vertex(64, -100)
            .wall(0, 1, 0, NO, NO, 0, NO, NO, NO, NO, offsets, pegs, 0, 0);
    }

    // R is 1 / 256 in all columns: a row is 2 high at the wall, and its Z is 88 - 2 * row.
    private static void solidWall() {
        SectorView view = Give.withMap(room(0, 0));
        for (int column : new int[] {0, 31, 32, 63}) {
            surfaces("a wall", view, column, 15, CEILING, 45, SOLID, 48, FLOOR);
            mets("a wall", view, column, 0);
        }
        for (int row = 15; row < 45; row++) {
            pixel("1 on the left", view, 31, row, texel(99, 60 - 1 - (88 - 2 * row)), 15);
            pixel("1 on the right", view, 32, row, texel(101, 60 - 1 - (88 - 2 * row)), 15);
            pixel("63 on the left", view, 0, row, texel(37, 60 - 1 - (88 - 2 * row)), 15);
        }
        pixel("the floor", view, 31, 46, texel(58, 0), 15);
        pixel("the floor", view, 32, 46, texel(58, -1), 15);
        pixel("the ceiling", view, 31, 2, texel(28, 0), 15);
        pixel("the ceiling", view, 32, 2, texel(28, -1), 15);
        dueFrame("a wall", view);
        view = Give.withMap(room(2, 0x35));
        for (int row = 15; row < 45; row++) {
            pixel("offsets, lower pegged", view, 31, row, texel(99 + 3, 16 - 1 - (88 - 2 * row) + 5), 15);
        }
        view = Give.withMap(room(1, 0));
        pixel("upper pegged is nothing to it", view, 31, 30, texel(99, 60 - 1 - 28), 15);
        view = Give.withMap(textured().sector(0, 60, 0, 0, 15, 0, 0).vertex(64, 100).vertex(64, -100)
            .wall(0, 1, 0, NO, 0, NO, 0, NO, NO, NO, 0, 0, 0, 0));
        pixel("no texture", view, 31, 30, 0, 15);
        surfaces("no texture", view, 31, 15, CEILING, 45, SOLID, 48, FLOOR);
    }

    private static MapMaker opening(int farFloor, int farCeiling, int pegs) {
        return textured().sector(0, 60, 0, 0, 15, 0, 0).sector(farFloor, farCeiling, 1, 1, 9, 0, 0)
            .vertex(64, 100).vertex(64, -100).vertex(128, 200).vertex(128, -200)
            .wall(0, 1, 0, 1, 0, 1, 0, 1, 1, 1, 0, pegs, 0, 0)
            .wall(2, 3, 1, NO, NO, 1, NO, NO, NO, NO, 0, 0, 0, 0);
    }

    // ROW at the first wall: 24 - floor((z - 41) / 2), at the second one: 24 - floor((z - 41) / 4).
    private static void openings() {
        SectorView view = Give.withMap(opening(11, 51, 0));
        surfaces("both parts", view, 31, 15, CEILING, 19, UPPER, 22, CEILING + 1, 32, SOLID + 1, 39, FLOOR + 1, 45, LOWER, 48, FLOOR);
        mets("both parts", view, 31, 0, 1);
        dueFrame("both parts", view);
        view = Give.withMap(opening(-9, 81, 0));
        surfaces("none of them", view, 31, 15, CEILING, 37, SOLID + 1, 45, FLOOR + 1, 48, FLOOR);
        mets("none of them", view, 31, 0, 1);
        view = Give.withMap(opening(0, 60, 0));
        surfaces("as high", view, 31, 15, CEILING, 20, CEILING + 1, 35, SOLID + 1, 45, FLOOR + 1, 48, FLOOR);
        view = Give.withMap(opening(-50, 0, 0));
        surfaces("closed from above", view, 31, 15, CEILING, 45, UPPER, 48, FLOOR);
        mets("closed from above: the second is not come to", view, 31, 0);
        view = Give.withMap(opening(60, 90, 0));
        surfaces("closed from below", view, 31, 15, CEILING, 45, LOWER, 48, FLOOR);
        mets("closed from below", view, 31, 0);
        view = Give.withMap(opening(500, 900, 0));
        surfaces("far above", view, 31, 15, CEILING, 45, LOWER, 48, FLOOR);
        view = Give.withMap(opening(-900, -500, 0));
        surfaces("far below", view, 31, 15, CEILING, 45, UPPER, 48, FLOOR);
    }

    private static void pegs() {
        int[] uppers = {51 + 16, 60, 51 + 16, 60};
        int[] lowers = {11, 11, 60, 60};
        for (int pegs = 0; pegs < 4; pegs++) {
            SectorView view = Give.withMap(opening(11, 51, pegs));
            for (int row = 15; row < 19; row++) {
                pixel("upper, pegs " + pegs, view, 31, row, texel(99, uppers[pegs] - 1 - (88 - 2 * row)), 15);
            }
            for (int row = 39; row < 45; row++) {
                pixel("lower, pegs " + pegs, view, 31, row, texel(99, lowers[pegs] - 1 - (88 - 2 * row)), 15);
            }
        }
    }

    private static void fromTheBack() {
        MapMaker map = textured().sector(0, 60, 0, 0, 15, 0, 0).sector(11, 51, 1, 1, 9, 0, 0)
            .vertex(64, -90).vertex(64, 110)
            .wall(0, 1, 1, 0, 1, 1, 1, 0, 0, 1, 0x70, 0, 0, 0);
        SectorView view = Give.withMap(map);
        surfaces("the front is far", view, 31, 15, CEILING, 19, UPPER, 39, 0, 45, LOWER, 48, FLOOR);
        mets("the front is far", view, 31, 0);
        pixel("across from its B", view, 31, 17, texel(109 + 7, 51 + 16 - 1 - 54), 15);
        pixel("the back's lower", view, 31, 40, Math.floorMod(11 - 1 - 8, 2) == 0 ? 4 : 11, 15);
        pixel("the back's lower", view, 31, 44, Math.floorMod(11 - 1 - 0, 2) == 0 ? 4 : 11, 15);
        pixel("nothing", view, 31, 30, 0, 0);
    }

    private static void passedOver() {
        MapMaker map = room(0, 0).vertex(32, -100).vertex(32, 100).plainWall(2, 3, 0, NO, 0, 0);
        SectorView view = Give.withMap(map);
        surfaces("seen through", view, 31, 15, CEILING, 45, SOLID, 48, FLOOR);
        mets("seen through", view, 31, 0);
        map = textured().sector(0, 60, 0, 0, 15, 0, 0).vertex(64, 0).vertex(64, -100).vertex(100, -100).vertex(100, 100)
            .plainWall(0, 1, 0, NO, 0, 0).plainWall(2, 3, 0, NO, 0, 0);
        view = Give.withMap(map);
        surfaces("nothing else", view, 31, 48, 0);
        surfaces("beside it", view, 32, 15, CEILING, 45, SOLID, 48, FLOOR);
    }

    // A ray by an end meets the wall of which the other end is below 0.
    private static void ends() {
        MapMaker map = textured().sector(0, 60, 0, 0, 15, 0, 0).vertex(64, 1).vertex(64, -100).vertex(64, 101)
            .plainWall(0, 1, 0, NO, 0, 0).plainWall(2, 0, 0, NO, 0, 0);
        SectorView view = Give.withMap(map);
        mets("by the vertex of two", view, 31, 0);
        surfaces("by the vertex of two", view, 31, 15, CEILING, 45, SOLID, 48, FLOOR);
        mets("beside it", view, 30, 1);
        map = textured().sector(0, 60, 0, 0, 15, 0, 0).vertex(64, 1).vertex(164, -100).vertex(164, -50)
            .plainWall(0, 1, 0, 0, 0, 0).plainWall(0, 2, 0, 0, 0, 0);
        mets("the same R, by their numbers", Give.withMap(map), 31, 0, 1);
        map.walls.add(map.walls.remove(0));
        mets("the same R, by their numbers", Give.withMap(map), 31, 0, 1);
        mets("by R, not by their numbers", Give.withMap(map), 35, 1, 0);
        SectorView on = Give.withMap(room(0, 0));
        on.startAt(64, 0, 0, 0);
        surfaces("on the wall: its R is 0", on, 31, 48, 0);
        on.startAt(65, 0, 0, 0);
        surfaces("behind it", on, 31, 48, 0);
    }

    private static void sky() {
        MapMaker map = textured().sector(0, 60, 0, NO, 2, 0, 0).vertex(64, 100).vertex(64, -100).plainWall(0, 1, 0, NO, 0, 0);
        SectorView view = Give.withMap(map);
        surfaces("sky", view, 31, 15, SKY, 45, SOLID, 48, FLOOR);
        for (int row = 0; row < 15; row++) {
            pixel("sky", view, 31, row, 15 - row / 4, 15);
        }
        pixel("the wall has its light", view, 31, 20, 0, 2);
    }

    private static void shades() {
        MapMaker map = textured().sector(0, 1000, 1, 1, 10, 0, 0).vertex(1024, 2000).vertex(1024, -2000)
            .wall(0, 1, 0, NO, NO, 1, NO, NO, NO, NO, 0, 0, 0, 0);
        SectorView view = Give.withMap(map);
        for (int row = 0; row < 24; row++) {
            CHECKS.due("R is 1 / 16: 4 less", view.pixelAt(31, row) % 16, 6);
        }
        view.startAt(1, 0, 0, 0);
        CHECKS.due("just less than that: 3 less", view.pixelAt(31, 20) % 16, 7);
        view.startAt(-4000, 0, 0, 0);
        CHECKS.due("0 at least", view.pixelAt(31, 24) % 16, 0);
        view.startAt(-9000, 0, 0, 0);
        CHECKS.due("a floor: 64 * 41 / 256 less", view.pixelAt(31, 24) % 16, 0);
        CHECKS.due("a floor: 64 * 41 / 1280 less", view.pixelAt(31, 26) % 16, 8);
        CHECKS.due("a floor: 64 * 41 / 3840 less", view.pixelAt(31, 31) % 16, 10);
        CHECKS.due("a ceiling: 64 * 959 / 12032 less", view.pixelAt(31, 0) % 16, 5);
    }

    private static void movingFloors() {
        MapMaker map = opening(11, 51, 0);
        map.walls.get(0)[12] = 1;
        SectorView view = Give.withMap(map);
        view.stepBy(0, 0, 0, true);
        CHECKS.due("a door to 56", view.sectorOf(1, 1), 56);
        surfaces("what is now", view, 31, 15, CEILING, 17, UPPER, 21, CEILING + 1, 32, SOLID + 1, 39, FLOOR + 1, 45, LOWER, 48, FLOOR);
        view.startAt(0, 0, 0, 1);
        CHECKS.due("the eye is in another sector", view.walkerOf(4), 52);
        surfaces("ROW is of the eye", view, 31, 20, CEILING, 25, UPPER, 35, SOLID + 1, 45, FLOOR + 1, 48, LOWER);
        view.startAt(0, 0, 16, 0);
        surfaces("turned away", view, 31, 48, 0);
    }

    // Products of these places do not fit 32 bits, nor do some of them fit 63.
    private static void farAway() {
        MapMaker map = textured().sector(-1024, 1024, 0, 0, 15, 0, 0)
            .vertex(-32768, -32768).vertex(32767, -32768).vertex(32767, 32767).vertex(-32768, 32767)
            .plainWall(1, 0, 0, NO, 0, 0).plainWall(2, 1, 0, NO, 0, 0).plainWall(3, 2, 0, NO, 0, 0).plainWall(0, 3, 0, NO, 0, 0)
            .start(-32767, -32767, 8, 0);
        SectorView view = Give.withMap(map);
        Naive naive = new Naive(map);
        for (int angle = 0; angle < 64; angle += 4) {
            view.startAt(-32767, -32767, angle, 0);
            naive.begin(-32767, -32767, angle, 0);
            for (int column = 0; column < 64; column += 7) {
                naive.look(column);
                for (int row = 0; row < 48; row++) {
                    CHECKS.due("far: surfaceAt", view.surfaceAt(column, row), naive.surfaces[row]);
                    CHECKS.due("far: pixelAt", view.pixelAt(column, row), naive.pixels[row]);
                }
            }
        }
    }

    private static void wrongPlaces() {
        SectorView view = Give.withMap(room(0, 0));
        int[][] wrong = {{-1, 0}, {64, 0}, {0, -1}, {0, 48}, {Integer.MIN_VALUE, 0}, {0, Integer.MAX_VALUE}};
        for (int[] w : wrong) {
            CHECKS.due("pixelAt", view.pixelAt(w[0], w[1]), -1);
            CHECKS.due("surfaceAt", view.surfaceAt(w[0], w[1]), -1);
        }
        CHECKS.due("metAt(-1, 0)", view.metAt(-1, 0), -1);
        CHECKS.due("metAt(64, 0)", view.metAt(64, 0), -1);
        CHECKS.due("metAt(0, -1)", view.metAt(0, -1), -1);
        CHECKS.due("metAt(0, most)", view.metAt(0, Integer.MAX_VALUE), -1);
        CHECKS.due("pixelAt(63, 47)", view.pixelAt(63, 47) >= 0, true);
    }
}
