/** The boundary sentences of rays, rows, texels and light, and of promises 17 to 20: what the walker sees. */
public final class EdgesOfViewsTest {
    private static final Sentences S = new Sentences();
    private static final int NO = MapMaker.NO;
    private static final int CEILING = 256;
    private static final int FLOOR = 512;
    private static final int SOLID = 768;
    private static final int UPPER = 1024;
    private static final int LOWER = 1280;
    private static final int SKY = 1536;
    private static final int LEAST = Integer.MIN_VALUE;
    private static final int MOST = Integer.MAX_VALUE;

    public static void main(String[] args) {
        S.test("just one of a, b is below 0", EdgesOfViewsTest::oneBelow);
        S.test("the quotient P / Q is above 0: that is its R", EdgesOfViewsTest::aboveNothing);
        S.test("It comes from its FRONT if P is below 0, else from its BACK", EdgesOfViewsTest::frontAndBack);
        S.test("MET WALLS come in the order of their R, of the same R by their numbers", EdgesOfViewsTest::order);
        S.test("those that are met from their BACK and have no BACK sector are passed over", EdgesOfViewsTest::passedOver);
        S.test("THE VIEW has 64 columns and 48 rows.", EdgesOfViewsTest::size);
        S.test("an EYE, 41 above the FLOOR of that", EdgesOfViewsTest::eye);
        S.test("D of column c is 64 * AHEAD + (2 * c - 63) * ASIDE.", EdgesOfViewsTest::columns);
        S.test("ROW(z) at a MET WALL is 24 - floor((z - EYE) / (512 * R)), the quotient being exact.", EdgesOfViewsTest::rows);
        S.test("Of each column the rows from TOP to before BOTTOM are open, 0 and 48 at first.", EdgesOfViewsTest::allOpen);
        S.test("(BETWEEN(v, l, h) is l if v is below l, h if it is above h, else v)", EdgesOfViewsTest::between);
        S.test("For each MET WALL, in their order, as long as rows are open", EdgesOfViewsTest::closed);
        S.test("If there is no FAR: rows from c to before f are SOLID of the WALL, and none are open any more.", EdgesOfViewsTest::noFar);
        S.test("if that is below that of NEAR, else c", EdgesOfViewsTest::upper);
        S.test("if that is above that of NEAR, else f", EdgesOfViewsTest::lower);
        S.test("Rows that are open in the end are NOTHING.", EdgesOfViewsTest::nothing);
        S.test("A SURFACE is 0 for NOTHING, else 256 * its kind", EdgesOfViewsTest::surfaceNumbers);
        S.test("LENGTH is the greater one of the two differences of its ends, |x| and |y|", EdgesOfViewsTest::lengths);
        S.test("U = floor(LENGTH * a / (a - b)), from its BACK floor(LENGTH * b / (b - a)), and across", EdgesOfViewsTest::across);
        S.test("V = ANCHOR - 1 - Z and down", EdgesOfViewsTest::down);
        S.test("it is the texel of the TEXTURE (upper for UPPER, middle for SOLID, lower for LOWER, of the side that is met) in column U modulo"
            + " W, row V modulo H", EdgesOfViewsTest::eachTexture);
        S.test("0 if there is none.", EdgesOfViewsTest::noTexture);
        S.test("for UPPER CEILING of NEAR, if upper is PEGGED, else CEILING of FAR + H", EdgesOfViewsTest::upperAnchor);
        S.test("for SOLID FLOOR of NEAR + H, if lower is PEGGED, else CEILING of NEAR", EdgesOfViewsTest::solidAnchor);
        S.test("for LOWER CEILING of NEAR, if lower is PEGGED, else FLOOR of FAR", EdgesOfViewsTest::lowerAnchor);
        S.test("DISTANCE is (z - EYE) / ((47 - 2 * y) * 256) if that is above 0, else 0", EdgesOfViewsTest::distances);
        S.test("the place is E + D * DISTANCE, each of x and y rounded down", EdgesOfViewsTest::places);
        S.test("the texel in column x modulo W, row y modulo H", EdgesOfViewsTest::planeTexels);
        S.test("Of SKY: 15 - floor(y / 4); it has no DISTANCE.", EdgesOfViewsTest::sky);
        S.test("(All modulos are 0 or more.)", EdgesOfViewsTest::modulos);
        S.test("SHADE is THE LIGHT of NEAR, less floor(64 * DISTANCE), 0 at least; 15 for SKY. NOTHING is 0.", EdgesOfViewsTest::shades);
        S.test("A PIXEL, as the walker sees it; NONE without a MAP, or if there is no such column or row.", EdgesOfViewsTest::wrongPixels);
        S.test("Its SURFACE; NONE likewise.", EdgesOfViewsTest::wrongSurfaces);
        S.test("the number of the i-th WALL that is MET and not passed over, from 0 on, as long as rows are open when it is come to",
            EdgesOfViewsTest::metWalls);
        S.test("NONE if there is none such, no such column, or no MAP.", EdgesOfViewsTest::wrongMets);
        S.test("All PIXELS, row by row, as one number: from 0 on, each time 31 * it + the PIXEL, modulo 2^64; 0 without a MAP.",
            EdgesOfViewsTest::frames);
        S.end();
    }

    /** 16 by 16; the texel of column u, row v is this. */
    private static int texel(int u, int v) {
        return (Math.floorMod(u, 16) + 3 * Math.floorMod(v, 16)) % 16;
    }

    /** Texture 0 is 16 by 16, 1 is 16 by 1, 2 is 1 by 16, 3 is 2 by 4. */
    private static MapMaker textured() {
        int[] both = new int[256];
        int[] line = new int[16];
        for (int i = 0; i < 256; i++) {
            both[i] = texel(i % 16, i / 16);
            line[i % 16] = i % 16;
        }
        return new MapMaker().texture(4, 4, both).texture(4, 0, line).texture(0, 4, line).texture(1, 2, 8, 9, 10, 11, 12, 13, 14, 15);
    }

    private static void surfaces(String what, SectorView view, int column, int... rowsAndSurfaces) {
        int row = 0;
        for (int i = 0; i < rowsAndSurfaces.length; i += 2) {
            for (; row < rowsAndSurfaces[i]; row++) {
                S.due(what + ": surfaceAt(" + column + ", " + row + ")", view.surfaceAt(column, row), rowsAndSurfaces[i + 1]);
            }
        }
        S.due(what + ": all rows are told", row, 48);
    }

    private static void mets(String what, SectorView view, int column, int... walls) {
        for (int i = 0; i < walls.length; i++) {
            S.due(what + ": metAt(" + column + ", " + i + ")", view.metAt(column, i), walls[i]);
        }
        S.due(what + ": metAt(" + column + ", " + walls.length + ")", view.metAt(column, walls.length), -1);
    }

    private static void pixel(String what, SectorView view, int column, int row, int texel, int shade) {
        S.due(what + ": pixelAt(" + column + ", " + row + ")", view.pixelAt(column, row), 16 * texel + shade);
    }

    /** A wall with sector 0 on both sides, seen from (0, 0) along x. */
    private static SectorView open(int ax, int ay, int bx, int by) {
        return Give.withMap(textured().sector(0, 60, 0, 0, 15, 0, 0).vertex(ax, ay).vertex(bx, by).plainWall(0, 1, 0, 0, 0, 0));
    }

    // The ray of column 31 goes by (64, 1), that of column 32 by (64, -1).
    private static void oneBelow() {
        mets("a is 0, b below 0", open(64, 1, 64, -100), 31, 0);
        mets("b is 0, a below 0", open(64, -100, 64, 1), 31, 0);
        mets("a is 0, b above 0", open(64, 1, 64, 100), 31);
        mets("b is 0, a above 0", open(64, 100, 64, 1), 31);
        mets("both are 0", open(64, 1, 128, 2), 31);
        mets("both are below 0", open(64, 0, 64, -100), 31);
        mets("both are above 0", open(64, 2, 64, 100), 31);
        mets("one is below 0, one above", open(64, 2, 64, 0), 31, 0);
        mets("one is below 0, one above", open(64, 0, 64, 2), 31, 0);
        mets("by the next column", open(64, 1, 64, 100), 30, 0);
    }

    private static void aboveNothing() {
        SectorView view = open(64, 100, 64, -100);
        view.startAt(64, 0, 0, 0);
        mets("on the wall", view, 31);
        view.startAt(64, 0, 32, 0);
        mets("on the wall, the other way", view, 31);
        view.startAt(64, -100, 16, 0);
        mets("at its vertex", view, 31);
        view.startAt(65, 0, 0, 0);
        mets("behind it", view, 31);
        view.startAt(65, 0, 32, 0);
        mets("behind it, turned around", view, 31, 0);
        view.startAt(63, 0, 0, 0);
        mets("ahead of it", view, 31, 0);
        view.startAt(63, 0, 32, 0);
        mets("ahead of it, turned around", view, 31);
        view = open(1, 1, 0, -1);
        mets("half a place ahead of it", view, 31, 0);
    }

    private static void frontAndBack() {
        MapMaker map = textured().sector(0, 60, 0, 0, 15, 0, 0).sector(0, 80, 0, 0, 15, 0, 0).vertex(64, 100).vertex(64, -100)
            .plainWall(0, 1, 0, 1, 0, 0);
        surfaces("FRONT is NEAR", Give.withMap(map), 31, 15, CEILING, 45, 0, 48, FLOOR);
        map.walls.set(0, new int[] {1, 0, 0, 1, NO, NO, NO, NO, NO, NO, 0, 0, 0, 0});
        surfaces("BACK is NEAR", Give.withMap(map), 31, 5, CEILING + 1, 15, UPPER, 45, 0, 48, FLOOR + 1);
        MapMaker close = textured().sector(0, 60, 0, 0, 15, 0, 0).vertex(1, 1).vertex(0, -1).plainWall(0, 1, 0, NO, 0, 0);
        mets("P is -1", Give.withMap(close), 31, 0);
        close.walls.set(0, new int[] {1, 0, 0, NO, NO, NO, NO, NO, NO, NO, 0, 0, 0, 0});
        mets("P is 1", Give.withMap(close), 31);
    }

    private static void order() {
        MapMaker map = textured().sector(0, 60, 0, 0, 15, 0, 0).vertex(64, 1).vertex(164, -100).vertex(164, -50).vertex(264, -100)
            .plainWall(0, 3, 0, 0, 0, 0).plainWall(0, 1, 0, 0, 0, 0).plainWall(0, 2, 0, 0, 0, 0);
        mets("the same R", Give.withMap(map), 31, 0, 1, 2);
        mets("by R", Give.withMap(map), 36, 1, 2, 0);
        MapMaker row = textured().sector(0, 60, 0, 0, 15, 0, 0);
        for (int i = 0; i < 20; i++) {
            int x = 100 + 37 * (i * 7 % 20);
            row.vertex(x, 500).vertex(x, -500).plainWall(2 * i, 2 * i + 1, 0, 0, 0, 0);
        }
        int[] near = new int[20];
        for (int i = 0; i < 20; i++) {
            near[i * 7 % 20] = i;
        }
        mets("20 of them", Give.withMap(row), 31, near);
        slantedInOrder();
        // From 32768 below 0 the ray of column 32 is at y = -980.75 where x is 30000: both walls are met just behind it.
        MapMaker close = textured().sector(0, 60, 0, 0, 15, 0, 0).vertex(30000, -980).vertex(30002, -32768).vertex(30001, -32768)
            .plainWall(0, 1, 0, 0, 0, 0).plainWall(0, 2, 0, 0, 0, 0).start(-32768, 0, 0, 0);
        mets("R is nearly the same", Give.withMap(close), 32, 1, 0);
    }

    // Neither their upper nor their lower ends change places, so all rays meet them from left to right.
    private static void slantedInOrder() {
        int n = 25;
        MapMaker map = textured().sector(0, 60, 0, 0, 15, 0, 0);
        int[] number = new int[n];
        for (int k = 0; k < n; k++) {
            int i = k * 7 % n;
            map.vertex(64 + 4 * i, 900).vertex(40 + 5 * i + i % 3, -900).plainWall(2 * k, 2 * k + 1, 0, 0, 0, 0);
            number[i] = k;
        }
        for (int column = 0; column < 64; column++) {
            mets("slanted walls", Give.withMap(map), column, number);
        }
    }

    private static void passedOver() {
        MapMaker map = textured().sector(0, 60, 0, 0, 15, 0, 0).vertex(32, -100).vertex(32, 100).vertex(64, 100).vertex(64, -100)
            .plainWall(0, 1, 0, NO, 0, 0).plainWall(2, 3, 0, NO, 0, 0);
        SectorView view = Give.withMap(map);
        mets("from its back", view, 31, 1);
        surfaces("from its back", view, 31, 15, CEILING, 45, SOLID + 1, 48, FLOOR);
        view.startAt(80, 0, 32, 0);
        mets("the other one, from the other side", view, 31, 0);
        map.walls.get(0)[3] = 0;
        mets("with a back", Give.withMap(map), 31, 0, 1);
    }

    private static MapMaker room(int floor, int ceiling, int x) {
        return textured().sector(floor, ceiling, 0, 0, 15, 0, 0).vertex(x, 2000).vertex(x, -2000)
            .wall(0, 1, 0, NO, NO, 0, NO, NO, NO, NO, 0, 0, 0, 0);
    }

    private static void size() {
        SectorView view = Give.withMap(room(0, 60, 64));
        for (int column : new int[] {0, 63}) {
            S.due("the first row", view.surfaceAt(column, 0), CEILING);
            S.due("the last row", view.surfaceAt(column, 47), FLOOR);
            mets("a column", view, column, 0);
        }
        mets("none before", view, -1);
        mets("none behind", view, 64);
        S.due("no row 48", view.surfaceAt(0, 48), -1);
    }

    private static void eye() {
        for (int floor : new int[] {-1024, -1, 0, 1, 900}) {
            SectorView view = Give.withMap(room(floor, floor + 60, 64));
            S.due("EYE", view.walkerOf(4), floor + 41);
            surfaces("a floor of " + floor, view, 31, 15, CEILING, 45, SOLID, 48, FLOOR);
        }
        MapMaker map = room(0, 60, 64).sector(19, 60, 0, 0, 0, 0, 0);
        SectorView view = Give.withMap(map);
        view.startAt(0, 0, 0, 1);
        surfaces("of the walker's SECTOR, not of NEAR", view, 31, 24, CEILING, 48, SOLID);
    }

    // At x = 64 the rays of columns 0 .. 63 go by y = 63, 61, .., 1, -1, .., -63.
    private static void columns() {
        for (int column : new int[] {0, 1, 31, 32, 62, 63}) {
            int y = 63 - 2 * column;
            mets("column " + column + " by its vertex", open(64, y, 64, y - 1), column, 0);
            mets("column " + column + " beside it", open(64, y - 1, 64, y - 2), column);
            mets("column " + column + " beside it", open(64, y + 1, 64, y), column);
            SectorView up = open(-y, 64, 1 - y, 64);
            up.startAt(0, 0, 16, 0);
            mets("column " + column + ", turned left", up, column, 0);
            SectorView slanted = Give.withMap(textured().sector(0, 60, 0, 0, 15, 0, 0).vertex(-33, 1000).vertex(7, 1010)
                .plainWall(0, 1, 0, 0, 0, 0).start(y, 940, 16, 0));
            mets("column " + column + ", from elsewhere", slanted, column, 0);
        }
        SectorView level = Give.withMap(textured().sector(0, 60, 0, 0, 15, 0, 0).vertex(-100, 1004).vertex(100, 1004)
            .plainWall(0, 1, 0, NO, 0, 0).start(7, 940, 16, 0));
        surfaces("64 away, from elsewhere", level, 31, 15, CEILING, 45, SOLID, 48, FLOOR);
    }

    private static void dueRow(int x, int z, int row) {
        MapMaker map = room(0, 1, x).sector(-900, z, 0, 0, 15, 0, 0);
        map.walls.get(0)[2] = 1;
        SectorView view = Give.withMap(map);
        if (row > 0) {
            S.due(x + ", " + z + ": ahead of it", view.surfaceAt(31, row - 1), CEILING + 1);
        }
        S.due(x + ", " + z + ": from it on", view.surfaceAt(31, row), SOLID);
    }

    private static void rows() {
        int[][] at64 = {{88, 1}, {87, 1}, {86, 2}, {61, 14}, {60, 15}, {59, 15}, {43, 23}, {42, 24}, {41, 24}, {40, 25}, {39, 25}, {38, 26},
            {37, 26}, {-4, 47}, {-5, 47}};
        for (int[] r : at64) {
            dueRow(64, r[0], r[1]);
        }
        int[][] at96 = {{45, 23}, {44, 23}, {43, 24}, {41, 24}, {40, 25}, {38, 25}, {37, 26}};
        for (int[] r : at96) {
            dueRow(96, r[0], r[1]);
        }
        int[][] at32 = {{42, 23}, {41, 24}, {40, 25}};
        for (int[] r : at32) {
            dueRow(32, r[0], r[1]);
        }
        // Far off a row is 1000 high: 24 - floor((z - 41) / 1000).
        dueRow(32000, 1024, 24);
        dueRow(32000, 41, 24);
        dueRow(31456, 1024, 23);
    }

    private static void allOpen() {
        surfaces("a wall up to row 0", Give.withMap(room(0, 90, 64)), 31, 45, SOLID, 48, FLOOR);
        MapMaker deep = room(0, 1024, 64).sector(-900, 1024, 0, 0, 15, 0, 0);
        deep.walls.get(0)[2] = 1;
        surfaces("a wall from row 0 to 47", Give.withMap(deep), 31, 48, SOLID);
    }

    /** From a sector of this floor, a wall whose near sector has these heights. */
    private static SectorView seen(int eyeFloor, int floor, int ceiling) {
        MapMaker map = room(eyeFloor, eyeFloor + 100, 64).sector(floor, ceiling, 0, 0, 15, 0, 0);
        map.walls.get(0)[2] = 1;
        return Give.withMap(map);
    }

    private static void between() {
        surfaces("c of -1 is TOP", seen(0, -30, 91), 31, 48, SOLID);
        surfaces("c of 0", seen(0, -30, 90), 31, 48, SOLID);
        surfaces("c of 1", seen(0, -30, 88), 31, 1, CEILING + 1, 48, SOLID);
        surfaces("f of 47", seen(5, 0, 200), 31, 47, SOLID, 48, FLOOR + 1);
        surfaces("f of 48", seen(6, 0, 200), 31, 48, SOLID);
        surfaces("f of 49 is BOTTOM", seen(8, 0, 200), 31, 48, SOLID);
        surfaces("c of 47", seen(5, -3, 0), 31, 47, CEILING + 1, 48, SOLID);
        surfaces("c of 48", seen(6, -3, 0), 31, 48, CEILING + 1);
        surfaces("c of far more is BOTTOM", seen(900, -3, 0), 31, 48, CEILING + 1);
        surfaces("f of far less is c", seen(-900, 0, 1), 31, 48, FLOOR + 1);
        surfaces("f of 1", seen(0, 87, 100), 31, 1, SOLID, 48, FLOOR + 1);
        surfaces("c and f in one row: nothing of the wall", seen(0, 59, 60), 31, 15, CEILING + 1, 48, FLOOR + 1);
    }

    /** A near sector 0 of 0 .. 60, a far one, and a wall behind it. */
    private static MapMaker opening(int farFloor, int farCeiling) {
        return textured().sector(0, 60, 0, 0, 15, 0, 0).sector(farFloor, farCeiling, 0, 0, 15, 0, 0)
            .vertex(64, 2000).vertex(64, -2000).vertex(128, 2000).vertex(128, -2000)
            .plainWall(0, 1, 0, 1, 0, 0).plainWall(2, 3, 1, NO, 0, 0);
    }

    private static void closed() {
        mets("one row is open", Give.withMap(opening(39, 41)), 31, 0, 1);
        mets("no row is open", Give.withMap(opening(41, 42)), 31, 0);
        surfaces("no row is open", Give.withMap(opening(41, 42)), 31, 15, CEILING, 24, UPPER, 45, LOWER, 48, FLOOR);
        mets("above the ceiling", Give.withMap(opening(60, 70)), 31, 0);
        mets("up to one row below the ceiling", Give.withMap(opening(57, 70)), 31, 0, 1);
        mets("below the floor", Give.withMap(opening(-10, 0)), 31, 0);
        mets("down to one row above the floor", Give.withMap(opening(-10, 1)), 31, 0, 1);
        mets("one behind a wall that is solid", Give.withMap(opening(0, 60).vertex(200, 2000).vertex(200, -2000)
            .plainWall(4, 5, 1, NO, 0, 0)), 31, 0, 1);
    }

    private static void noFar() {
        SectorView view = Give.withMap(opening(0, 60));
        surfaces("the second wall", view, 31, 15, CEILING, 20, CEILING + 1, 35, SOLID + 1, 45, FLOOR + 1, 48, FLOOR);
        mets("none behind it", view, 31, 0, 1);
        surfaces("no row of it", seen(900, -3, 0), 31, 48, CEILING + 1);
        mets("no row of it: met all the same", seen(900, -3, 0), 31, 0);
    }

    private static void upper() {
        surfaces("1 lower", Give.withMap(opening(0, 58)), 31, 15, CEILING, 16, UPPER, 20, CEILING + 1, 35, SOLID + 1, 45, FLOOR + 1, 48, FLOOR);
        surfaces("1 lower, in the same row", Give.withMap(opening(0, 59)), 31, 15, CEILING, 20, CEILING + 1, 35, SOLID + 1, 45, FLOOR + 1, 48, FLOOR);
        surfaces("as high", Give.withMap(opening(0, 60)), 31, 15, CEILING, 20, CEILING + 1, 35, SOLID + 1, 45, FLOOR + 1, 48, FLOOR);
        surfaces("higher: from c on", Give.withMap(opening(0, 90)), 31, 15, CEILING, 35, SOLID + 1, 45, FLOOR + 1, 48, FLOOR);
        surfaces("down to f", Give.withMap(opening(-900, -800)), 31, 15, CEILING, 45, UPPER, 48, FLOOR);
    }

    private static void lower() {
        surfaces("1 higher", Give.withMap(opening(1, 60)), 31, 15, CEILING, 20, CEILING + 1, 34, SOLID + 1, 44, FLOOR + 1, 45, LOWER, 48, FLOOR);
        surfaces("as high", Give.withMap(opening(0, 60)), 31, 15, CEILING, 20, CEILING + 1, 35, SOLID + 1, 45, FLOOR + 1, 48, FLOOR);
        surfaces("lower: down to f", Give.withMap(opening(-90, 60)), 31, 15, CEILING, 20, CEILING + 1, 45, SOLID + 1, 48, FLOOR);
        surfaces("up to u", Give.withMap(opening(800, 900)), 31, 15, CEILING, 45, LOWER, 48, FLOOR);
        surfaces("up to u, below an upper part", Give.withMap(opening(41, 42)), 31, 15, CEILING, 24, UPPER, 45, LOWER, 48, FLOOR);
    }

    private static void nothing() {
        SectorView view = open(64, 100, 64, -100);
        surfaces("behind an open wall", view, 31, 15, CEILING, 45, 0, 48, FLOOR);
        pixel("nothing", view, 31, 15, 0, 0);
        pixel("nothing", view, 31, 44, 0, 0);
        view.startAt(0, 0, 32, 0);
        surfaces("no wall is met", view, 31, 48, 0);
        surfaces("no wall at all", Give.withMap(textured().sector(0, 60, 0, 0, 15, 0, 0)), 0, 48, 0);
    }

    private static void surfaceNumbers() {
        MapMaker map = new MapMaker().texture(0, 0, 0);
        for (int i = 0; i < 30; i++) {
            map.sector(0, 60, 0, 0, 0, 0, 0);
        }
        map.sector(0, 60, 0, NO, 0, 0, 0).sector(11, 51, 0, 0, 0, 0, 0);
        for (int i = 0; i < 126; i++) {
            map.vertex(-1000 - 10 * i, 20 * (i % 2));
        }
        map.vertex(64, 2000).vertex(64, -2000);
        for (int i = 0; i < 125; i++) {
            map.plainWall(i, i + 1, 0, NO, 0, 0);
        }
        map.plainWall(0, 2, 0, NO, 0, 0).plainWall(1, 3, 0, NO, 0, 0).plainWall(126, 127, 30, 31, 0, 0);
        SectorView view = Give.withMap(map);
        surfaces("the last sector, the last wall", view, 31, 15, SKY + 30, 19, UPPER + 127, 39, 0, 45, LOWER + 127, 48, FLOOR + 30);
        map.walls.set(127, new int[] {126, 127, 31, NO, NO, NO, NO, NO, NO, NO, 0, 0, 0, 0});
        surfaces("the last sector, the last wall", Give.withMap(map), 31, 19, CEILING + 31, 39, SOLID + 127, 48, FLOOR + 31);
    }

    /** A wall with one texture on all its parts; the walker's sector 0 is on its front, or its back. */
    private static SectorView wallSeen(int texture, int offsets, boolean fromFront, int ax, int ay, int bx, int by) {
        MapMaker map = textured().sector(0, 60, 0, 0, 15, 0, 0).sector(30, 50, 0, 0, 15, 0, 0).vertex(ax, ay).vertex(bx, by);
        int t = texture;
        map.wall(fromFront ? 0 : 1, fromFront ? 1 : 0, fromFront ? 0 : 1, fromFront ? 1 : 0, t, t, t, t, t, t, offsets, 0, 0, 0);
        return Give.withMap(map);
    }

    private static void lengths() {
        // a is 317440, b -389120: 200 * a / (a - b) is 89.8.., 40 * a / (a - b) would be 17.9...
        pixel("x is the greater one", wallSeen(1, 0, true, 40, 20, 240, -20), 31, 30, 89 % 16, 15);
        // On y = 50 .. -50 and x = 64 the ray of column 31 is at 1: 49 of 100.
        pixel("y is the greater one", wallSeen(1, 0, true, 64, 50, 64, -50), 31, 30, 49 % 16, 15);
        // (44, 20) .. (84, -20) is met at x + y = 64, 65 * x = 64 * 64: 40 * a / (a - b) is 19.01...
        pixel("both are as great", wallSeen(1, 0, true, 44, 20, 84, -20), 31, 30, 19 % 16, 15);
        pixel("both are as great, from the back", wallSeen(1, 0, false, 44, 20, 84, -20), 31, 30, 19 % 16, 15);
    }

    private static void across() {
        pixel("a is 0", wallSeen(1, 0, true, 64, 1, 64, -50), 31, 30, 0, 15);
        pixel("a is 0, 15 across", wallSeen(1, 0xF0, true, 64, 1, 64, -50), 31, 30, 15, 15);
        pixel("1 of it, 15 across", wallSeen(1, 0xF0, true, 64, 2, 64, -50), 31, 30, 0, 15);
        pixel("15 of it", wallSeen(1, 0, true, 64, 16, 64, -50), 31, 30, 15, 15);
        pixel("16 of it", wallSeen(1, 0, true, 64, 17, 64, -50), 31, 30, 0, 15);
        pixel("from its back, by its other end", wallSeen(1, 0x30, false, 64, 17, 64, -50), 31, 30, 3, 15);
        pixel("from its back, 2 of it", wallSeen(1, 0x30, false, 64, 3, 64, -50), 31, 30, 5, 15);
        pixel("rounded down", wallSeen(1, 0, true, 65, 50, 65, -50), 31, 30, 48 % 16, 15);
        acrossBehind();
        pixel("W of 1", wallSeen(2, 0xF0, true, 64, 50, 64, -50), 31, 32, Math.floorMod(30 - 1 - 24, 16), 15);
        pixel("W of 2", wallSeen(3, 0, true, 64, 50, 64, -50), 31, 32, 8 + 2 * Math.floorMod(30 - 1 - 24, 4) + 1, 15);
    }

    // The nearer wall has the higher number; its 49 is not the 33 of the one behind it.
    private static void acrossBehind() {
        MapMaker map = textured().sector(0, 60, 0, 0, 15, 0, 0).sector(20, 50, 0, 0, 15, 0, 0)
            .vertex(128, 35).vertex(128, -80).vertex(64, 50).vertex(64, -50)
            .wall(0, 1, 1, NO, NO, 1, NO, NO, NO, NO, 0, 0, 0, 0).wall(2, 3, 0, 1, 1, 1, 1, 1, 1, 1, 0, 0, 0, 0);
        SectorView view = Give.withMap(map);
        mets("the nearer one first", view, 31, 1, 0);
        pixel("the nearer one", view, 31, 40, 49 % 16, 15);
        pixel("the one behind it", view, 31, 26, 33 % 16, 15);
        MapMaker back = textured().sector(0, 60, 0, 0, 15, 0, 0).sector(20, 50, 0, 0, 15, 0, 0).sector(30, 40, 0, 0, 15, 0, 0)
            .vertex(128, 35).vertex(128, -80).vertex(64, 50).vertex(64, -50)
            .wall(1, 0, 2, 1, 1, 1, 1, 1, 1, 1, 0, 0, 0, 0).wall(2, 3, 0, 1, 1, 1, 1, 1, 1, 1, 0, 0, 0, 0);
        pixel("the one behind it, from its back", Give.withMap(back), 31, 28, 33 % 16, 15);
    }

    private static final int[] SIX = {4, 5, 6, 7, 8, 9};

    /** Textures 4 .. 9 are 1 by 1, of texels 1 .. 6; the wall has one of them for each of its parts. */
    private static SectorView sixTextures(boolean fromFront, boolean solid) {
        MapMaker map = textured();
        for (int i = 1; i <= 6; i++) {
            map.texture(0, 0, i);
        }
        map.sector(0, 60, 0, 0, 15, 0, 0).sector(30, 50, 0, 0, 15, 0, 0).vertex(64, 50).vertex(64, -50);
        int near = fromFront ? 0 : 1;
        map.wall(fromFront ? 0 : 1, fromFront ? 1 : 0, near, solid ? NO : 1 - near, SIX[0], SIX[1], SIX[2], solid ? NO : SIX[3],
            solid ? NO : SIX[4], solid ? NO : SIX[5], 0, 0, 0, 0);
        return Give.withMap(map);
    }

    private static void eachTexture() {
        pixel("FRONT's upper", sixTextures(true, false), 31, 17, 1, 15);
        pixel("FRONT's middle", sixTextures(true, true), 31, 30, 2, 15);
        pixel("FRONT's lower", sixTextures(true, false), 31, 40, 3, 15);
        pixel("BACK's upper", sixTextures(false, false), 31, 17, 4, 15);
        pixel("BACK's lower", sixTextures(false, false), 31, 40, 6, 15);
    }

    // At x = 64 Z of row y is 88 - 2 * y.
    private static void down() {
        for (int down : new int[] {0, 1, 15}) {
            SectorView view = wallSeen(2, down, true, 64, 50, 64, -50);
            for (int row = 30; row < 45; row++) {
                pixel("LOWER, " + down + " down", view, 31, row, Math.floorMod(30 - 1 - (88 - 2 * row) + down, 16), 15);
            }
        }
        // At x = 96 Z is 41 + floor((47 - 2 * y) * 3 / 2).
        SectorView view = wallSeen(2, 0, true, 96, 50, 96, -50);
        int[] z = {27, 24, 21, 18, 15, 12, 9, 6, 3};
        for (int row = 28; row < 37; row++) {
            pixel("Z rounded down", view, 31, row, Math.floorMod(30 - 1 - z[row - 28], 16), 15);
        }
    }

    private static void noTexture() {
        SectorView view = wallSeen(NO, 0xFF, true, 64, 50, 64, -50);
        surfaces("no texture", view, 31, 15, CEILING, 20, UPPER, 30, 0, 45, LOWER, 48, FLOOR);
        pixel("no upper one", view, 31, 15, 0, 15);
        pixel("no lower one", view, 31, 30, 0, 15);
        SectorView solid = Give.withMap(Edges.least().vertex(64, 50).vertex(64, -50).plainWall(0, 1, 0, NO, 0, 0));
        pixel("no middle one", solid, 31, 30, 0, 9);
    }

    private static SectorView pegged(int pegs, int texture, boolean solid) {
        int t = texture;
        MapMaker map = textured().sector(0, 60, 0, 0, 15, 0, 0).sector(30, 50, 0, 0, 15, 0, 0).vertex(64, 50).vertex(64, -50);
        int back = solid ? NO : t;
        map.wall(0, 1, 0, solid ? NO : 1, t, t, t, back, back, back, 0, pegs, 0, 0);
        return Give.withMap(map);
    }

    private static void dueAnchors(boolean solid, int texture, int high, int from, int to, int[] anchors) {
        for (int pegs = 0; pegs < 4; pegs++) {
            SectorView view = pegged(pegs, texture, solid);
            for (int row = from; row < to; row++) {
                int v = Math.floorMod(anchors[pegs] - 1 - (88 - 2 * row), high);
                pixel("pegs " + pegs, view, 31, row, high == 16 ? v : 8 + 2 * v + 1, 15);
            }
        }
    }

    private static void upperAnchor() {
        dueAnchors(false, 2, 16, 15, 20, new int[] {50 + 16, 60, 50 + 16, 60});
        dueAnchors(false, 3, 4, 15, 20, new int[] {50 + 4, 60, 50 + 4, 60});
    }

    private static void solidAnchor() {
        dueAnchors(true, 2, 16, 15, 45, new int[] {60, 60, 16, 16});
        dueAnchors(true, 3, 4, 15, 45, new int[] {60, 60, 4, 4});
    }

    private static void lowerAnchor() {
        dueAnchors(false, 2, 16, 30, 45, new int[] {30, 30, 60, 60});
        dueAnchors(false, 3, 4, 30, 45, new int[] {30, 30, 60, 60});
    }

    private static void distances() {
        // The ceiling is as high as the eye, so it is at no distance in each of its rows.
        SectorView level = seen(0, -30, 41);
        for (int row = 0; row < 24; row++) {
            pixel("a ceiling at the eye", level, 31, row, texel(0, 0), 15);
        }
        // It lies below the eye: no distance above the middle, 100 / ((2 * y - 47) * 256) below it.
        SectorView below = seen(0, -900, -59);
        for (int row = 0; row < 24; row++) {
            pixel("a ceiling below the eye", below, 31, row, texel(0, 0), 15);
        }
        for (int row = 24; row < 48; row++) {
            int under = 2 * row - 47;
            int x = 64 * 100 / under;
            pixel("a ceiling below the eye", below, 31, row, texel(x, 100 / under), Math.max(0, 15 - 64 * 100 / (256 * under)));
        }
        SectorView above = seen(0, 141, 1000);
        for (int row = 24; row < 48; row++) {
            pixel("a floor above the eye", above, 31, row, texel(0, 0), 15);
        }
        for (int row = 0; row < 24; row++) {
            int under = 47 - 2 * row;
            int x = 64 * 100 / under;
            pixel("a floor above the eye", above, 31, row, texel(x, 100 / under), Math.max(0, 15 - 64 * 100 / (256 * under)));
        }
    }

    private static void places() {
        // Row 46: x is 64 * 41 / 45 = 58.3.., y is 41 / 45 or -41 / 45 in the middle columns.
        SectorView view = Give.withMap(room(0, 60, 64));
        pixel("column 31", view, 31, 46, texel(58, 0), 15);
        pixel("column 32", view, 32, 46, texel(58, -1), 15);
        pixel("column 0", view, 0, 46, texel(58, 57), 15);
        pixel("column 63", view, 63, 46, texel(58, -58), 15);
        view.startAt(-3, -5, 0, 0);
        pixel("from below 0", view, 32, 46, texel(55, -6), 15);
        // Turned around, row 46: x is -58.3...
        MapMaker turned = textured().sector(0, 60, 0, 0, 15, 0, 0).vertex(-64, -100).vertex(-64, 100)
            .plainWall(0, 1, 0, NO, 0, 0).start(0, 0, 32, 0);
        pixel("column 31", Give.withMap(turned), 31, 46, texel(-59, -1), 15);
        pixel("column 32", Give.withMap(turned), 32, 46, texel(-59, 0), 15);
        // A ceiling 47 above the eye, row 0: D / 256, no rest.
        SectorView whole = seen(0, 0, 88);
        pixel("no rest", whole, 31, 0, texel(64, 1), 15);
        pixel("no rest", whole, 32, 0, texel(64, -1), 15);
    }

    // In column 31, row 46 the floor is seen at 58, 0 from the walker; in row 0 a ceiling of 88 at 64, 1.
    private static void planeTexels() {
        for (int x = -17; x <= 17; x += 2) {
            for (int y = -17; y <= 17; y += 17) {
                MapMaker map = textured().sector(0, 88, 3, 1, 15, 0, 0).vertex(200, 300).vertex(200, -300).plainWall(0, 1, 0, NO, 0, 0);
                SectorView view = Give.withMap(map.start(x, y, 0, 0));
                pixel("a floor of 2 by 4 at " + x + ", " + y, view, 31, 46, 8 + 2 * Math.floorMod(y, 4) + Math.floorMod(x + 58, 2), 15);
                pixel("a ceiling of 16 by 1 at " + x + ", " + y, view, 31, 0, Math.floorMod(x + 64, 16), 15);
            }
        }
    }

    private static SectorView skyAll(int light) {
        MapMaker map = textured().sector(900, 1000, 0, 0, 15, 0, 0).sector(0, 1, 0, NO, light, 0, 0).vertex(64, 2000).vertex(64, -2000)
            .plainWall(0, 1, 1, NO, 0, 0);
        return Give.withMap(map);
    }

    private static void sky() {
        SectorView view = skyAll(7);
        int[] texels = {15, 14, 13, 12, 11, 10, 9, 8, 7, 6, 5, 4};
        for (int row = 0; row < 48; row++) {
            S.due("surfaceAt", view.surfaceAt(31, row), SKY + 1);
            pixel("sky", view, 31, row, texels[row / 4], 15);
        }
    }

    private static void modulos() {
        SectorView view = Give.withMap(room(0, 60, 64));
        view.startAt(-32768, -32768, 0, 0);
        surfaces("no wall is met", view, 31, 48, 0);
        MapMaker far = textured().sector(0, 60, 0, 0, 15, 0, 0).vertex(-32704, -30000).vertex(-32704, -32768)
            .wall(0, 1, 0, NO, NO, 0, NO, NO, NO, NO, 0, 2, 0, 0).start(-32768, -32700, 0, 0);
        SectorView low = Give.withMap(far);
        pixel("a place far below 0", low, 31, 46, texel(-32768 + 58, -32700), 15);
        pixel("a place far below 0", low, 32, 46, texel(-32768 + 58, -32701), 15);
        // U is 30000 - 32700 + 1 less than 0 from A; V is 16 - 1 - 58 = -43 in row 15.
        pixel("V below 0", low, 31, 15, texel(2699, -43), 15);
        MapMaker deep = room(0, 60, 64).sector(-1024, 60, 0, 0, 15, 0, 0);
        deep.walls.get(0)[2] = 1;
        deep.walls.get(0)[11] = 2;
        pixel("V far below 0", Give.withMap(deep), 31, 15, texel(1999, -1024 + 16 - 1 - 58), 15);
    }

    private static void shades() {
        // R is x / 16384: 64 * R is x / 256.
        int[][] lights = {{255, 15, 15}, {256, 15, 14}, {257, 15, 14}, {511, 15, 14}, {512, 15, 13}, {256, 1, 0}, {256, 0, 0}, {3839, 15, 1},
            {3840, 15, 0}, {4096, 15, 0}, {30000, 15, 0}, {255, 0, 0}};
        for (int[] l : lights) {
            MapMaker map = textured().sector(0, 1024, 0, 0, l[1], 0, 0).vertex(l[0], 32000).vertex(l[0], -32000).plainWall(0, 1, 0, NO, 0, 0);
            S.due("at " + l[0] + ", light " + l[1], Give.withMap(map).pixelAt(31, 23), l[2]);
        }
        // A ceiling's DISTANCE in row 23 is its height above the eye / 256, a floor's in row 25 its depth below it / 768.
        int[][] ceilings = {{42, 15}, {44, 15}, {45, 14}, {48, 14}, {49, 13}, {100, 1}, {101, 0}, {105, 0}, {1000, 0}};
        for (int[] c : ceilings) {
            S.due("a ceiling of " + c[0], Give.withMap(room(0, c[0], 32000)).pixelAt(31, 23) % 16, c[1]);
        }
        S.due("a ceiling in row 22, 95 / 12 less", Give.withMap(room(0, 136, 32000)).pixelAt(31, 22) % 16, 8);
        S.due("a ceiling in row 22, 96 / 12 less", Give.withMap(room(0, 137, 32000)).pixelAt(31, 22) % 16, 7);
        S.due("a floor in row 25", Give.withMap(room(0, 1000, 32000)).pixelAt(31, 25) % 16, 12);
        S.due("a floor in row 47", Give.withMap(room(0, 1000, 32000)).pixelAt(31, 47) % 16, 15);
        SectorView near = seen(0, -30, 60);
        S.due("the light of NEAR", near.pixelAt(31, 30) % 16, 15);
        MapMaker two = room(0, 60, 64).sector(0, 60, 0, 0, 3, 0, 0);
        two.walls.get(0)[2] = 1;
        S.due("not that of the walker's SECTOR", Give.withMap(two).pixelAt(31, 30) % 16, 3);
        S.due("sky without light", skyAll(0).pixelAt(31, 47) % 16, 15);
        S.due("nothing", open(64, 9, 64, -9).pixelAt(31, 24), 0);
        SectorView blink = Give.withMap(Edges.least().vertex(64, 50).vertex(64, -50).plainWall(0, 1, 0, NO, 0, 0));
        S.due("THE LIGHT at first", blink.pixelAt(31, 24), 9);
        MapMaker kind1 = textured().sector(0, 60, 0, 0, 15, 1, 0).vertex(64, 50).vertex(64, -50).plainWall(0, 1, 0, NO, 0, 0);
        SectorView half = Give.withMap(kind1);
        for (int i = 0; i < 4; i++) {
            S.due("THE LIGHT at " + i, half.pixelAt(31, 24), 15);
            half.stepBy(0, 0, 0, false);
        }
        S.due("THE LIGHT at 4", half.pixelAt(31, 24), 7);
    }

    private static final int[][] WRONG = {{-1, 0}, {64, 0}, {0, -1}, {0, 48}, {-1, -1}, {64, 48}, {LEAST, 0}, {MOST, 0}, {0, LEAST}, {0, MOST}};

    private static void wrongPixels() {
        SectorView view = Give.withMap(room(0, 60, 64));
        for (int[] w : WRONG) {
            S.due("pixelAt(" + w[0] + ", " + w[1] + ")", view.pixelAt(w[0], w[1]), -1);
        }
        for (int[] corner : new int[][] {{0, 0}, {63, 0}, {0, 47}, {63, 47}}) {
            S.due("a corner", view.pixelAt(corner[0], corner[1]) >= 0, true);
            S.due("without a MAP", new SectorView().pixelAt(corner[0], corner[1]), -1);
        }
    }

    private static void wrongSurfaces() {
        SectorView view = Give.withMap(room(0, 60, 64));
        for (int[] w : WRONG) {
            S.due("surfaceAt(" + w[0] + ", " + w[1] + ")", view.surfaceAt(w[0], w[1]), -1);
        }
        S.due("a corner", view.surfaceAt(0, 0), CEILING);
        S.due("a corner", view.surfaceAt(63, 0), CEILING);
        S.due("a corner", view.surfaceAt(0, 47), FLOOR);
        S.due("a corner", view.surfaceAt(63, 47), FLOOR);
        S.due("without a MAP", new SectorView().surfaceAt(0, 0), -1);
    }

    private static void metWalls() {
        MapMaker map = textured().sector(0, 60, 0, 0, 15, 0, 0);
        for (int i = 0; i < 64; i++) {
            map.vertex(100 + 3 * i, 300).vertex(100 + 3 * i, -300).plainWall(2 * i, 2 * i + 1, 0, 0, 0, 0);
        }
        SectorView view = Give.withMap(map);
        S.due("the first", view.metAt(31, 0), 0);
        S.due("the last", view.metAt(31, 63), 63);
        S.due("one more", view.metAt(31, 64), -1);
        map.walls.get(1)[3] = NO;
        S.due("up to the one that is solid", Give.withMap(map).metAt(31, 1), 1);
        S.due("none behind it", Give.withMap(map).metAt(31, 2), -1);
        map.walls.set(1, new int[] {3, 2, 0, NO, NO, NO, NO, NO, NO, NO, 0, 0, 0, 0});
        S.due("one that is passed over does not count", Give.withMap(map).metAt(31, 1), 2);
        S.due("one that is passed over does not count", Give.withMap(map).metAt(31, 62), 63);
        S.due("one that is passed over does not count", Give.withMap(map).metAt(31, 63), -1);
    }

    private static void wrongMets() {
        SectorView view = Give.withMap(room(0, 60, 64));
        for (int i : new int[] {-1, 1, 128, LEAST, MOST}) {
            S.due("metAt(31, " + i + ")", view.metAt(31, i), -1);
        }
        for (int column : new int[] {-1, 64, LEAST, MOST}) {
            S.due("metAt(" + column + ", 0)", view.metAt(column, 0), -1);
        }
        S.due("metAt(0, 0)", view.metAt(0, 0), 0);
        S.due("metAt(63, 0)", view.metAt(63, 0), 0);
        S.due("without a MAP", new SectorView().metAt(0, 0), -1);
        view.startAt(0, 0, 32, 0);
        S.due("no wall is met", view.metAt(31, 0), -1);
    }

    private static void frames() {
        S.due("without a MAP", new SectorView().frameOf(), 0);
        S.due("nothing is seen", Give.withMap(textured().sector(0, 60, 0, 0, 15, 0, 0)).frameOf(), 0);
        long sum = 0;
        for (int row = 0; row < 48; row++) {
            for (int column = 0; column < 64; column++) {
                sum = 31 * sum + 16 * (15 - row / 4) + 15;
            }
        }
        S.due("sky all over", skyAll(3).frameOf(), sum);
        MapMaker[] maps = {room(0, 60, 64), opening(11, 51), opening(-20, 90)};
        for (MapMaker map : maps) {
            long due = 0;
            int[][] pixels = new int[48][64];
            for (int column = 0; column < 64; column++) {
                SectorView view = Give.withMap(map);
                for (int row = 0; row < 48; row++) {
                    pixels[row][column] = view.pixelAt(column, row);
                }
            }
            for (int[] row : pixels) {
                for (int p : row) {
                    due = 31 * due + p;
                }
            }
            S.due("row by row", Give.withMap(map).frameOf(), due);
        }
        lastPixelAlone();
    }

    // One column alone sees the wall, in its last row alone: that pixel is the whole frame.
    private static void lastPixelAlone() {
        MapMaker map = textured().sector(-900, 1000, 0, 0, 15, 0, 0).sector(0, 1, 0, 0, 5, 0, 0).vertex(64, -63).vertex(64, -64)
            .plainWall(0, 1, 1, 0, 0, 0);
        SectorView view = Give.withMap(map);
        S.due("the next column", view.metAt(62, 0), -1);
        long sum = 0;
        for (int row = 0; row < 48; row++) {
            sum = sum * 31;
            for (int i = 0; i < 63; i++) {
                sum *= 31;
            }
            sum += view.pixelAt(63, row);
        }
        S.due("the last column alone", view.frameOf(), sum);
    }
}
