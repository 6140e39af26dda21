/** The boundary sentences of what a map is made of, and of promises 5 and 7: loadMap and saveMap. */
public final class EdgesOfMapsTest {
    private static final Sentences S = new Sentences();
    private static final int NO = MapMaker.NO;
    private static final int FINE = -1;

    public static void main(String[] args) {
        S.test("A MAP has VERTICES, places x, y (-32768 .. 32767 each)", EdgesOfMapsTest::farthestVertices);
        S.test("no two alike", EdgesOfMapsTest::alikeVertices);
        S.test("texels, 0 .. 15", EdgesOfMapsTest::texels);
        S.test("W and H being 1, 2, 4, 8 or 16", EdgesOfMapsTest::textureSizes);
        S.test("TEXTURE: the powers of two of W and H (0 .. 4), a byte each, then texels, row by row, a byte each.",
            EdgesOfMapsTest::texelRows);
        S.test("a FLOOR and a CEILING above it", EdgesOfMapsTest::ceilingAboveFloor);
        S.test("-1024 .. 1024 each", EdgesOfMapsTest::heights);
        S.test("a TEXTURE for its floor, one for its ceiling, or SKY", EdgesOfMapsTest::sectorTextures);
        S.test("a LIGHT 0 .. 15", EdgesOfMapsTest::lights);
        S.test("a KIND 0 .. 3", EdgesOfMapsTest::sectorKinds);
        S.test("a TAG 0 .. 255", EdgesOfMapsTest::tags);
        S.test("A WALL goes from a VERTEX A to another one B", EdgesOfMapsTest::wallEnds);
        S.test("has a FRONT sector and a BACK one (which may be the same) or none", EdgesOfMapsTest::wallSides);
        S.test("for FRONT and BACK each three TEXTURES, or none", EdgesOfMapsTest::wallTextures);
        S.test("(none for BACK without one)", EdgesOfMapsTest::texturesWithoutBack);
        S.test("OFFSETS across and down, 0 .. 15 each", EdgesOfMapsTest::offsets);
        S.test("PEGS, a set of upper (1) and lower (2)", EdgesOfMapsTest::pegs);
        S.test("a KIND 0 .. 5", EdgesOfMapsTest::wallKinds);
        S.test("START has a place, an ANGLE 0 .. 63 and a SECTOR.", EdgesOfMapsTest::starts);
        S.test("how many VERTICES (0 .. 128)", EdgesOfMapsTest::vertexCounts);
        S.test("TEXTURES (0 .. 16)", EdgesOfMapsTest::textureCounts);
        S.test("SECTORS (1 .. 32)", EdgesOfMapsTest::sectorCounts);
        S.test("WALLS (0 .. 128)", EdgesOfMapsTest::wallCounts);
        S.test("A number of two bytes: the high one first, below 0 as 65536 more.", EdgesOfMapsTest::twoBytes);
        S.test("the first is the sum of all bytes before it modulo 251, the second the sum, modulo 251, of what the first would be"
            + " behind each of these bytes.", EdgesOfMapsTest::checkSums);
        S.test("0, and THE MAP is that, with its START, THE RUN is empty, the walker is at START; else its fault.",
            EdgesOfMapsTest::loading);
        S.test("THE MAP is that", EdgesOfMapsTest::nothingIsLeft);
        S.test("(with the START that it was read with)", EdgesOfMapsTest::savedStart);
        S.test("NONE without a MAP (the WRITTEN ones stay)", EdgesOfMapsTest::saveNoMap);
        S.end();
    }

    private static void fine(int... placesAndBytes) {
        Edges.duePoked(S, FINE, placesAndBytes);
    }

    /** Fault 3 at the place of the first byte that is another one. */
    private static void wrong(int place, int b) {
        Edges.duePoked(S, place, place, b);
    }

    private static void farthestVertices() {
        MapMaker map = Edges.least().vertex(-32768, 32767).vertex(32767, 32767).vertex(-32768, -32768).vertex(32767, -32768)
            .plainWall(1, 0, 0, 0, 0, 0).plainWall(2, 3, 0, 0, 0, 0);
        SectorView view = Give.withMap(map);
        S.due("lookAt(0)", view.lookAt(0), 4);
        S.due("between the two walls, LEFT of both", view.leafOf(0, 32766), 0);
        S.due("between the two walls, LEFT of both", view.leafOf(0, -32767), 0);
        S.due("on the lower one", view.leafOf(0, -32768), 1);
        S.due("on the upper one", view.leafOf(0, 32767), 2);
        view.saveMap();
        S.dueWritten("as they were read", view, map.bytes());
    }

    private static void alikeVertices() {
        fine(11, 0, 12, 0, 13, 0, 14, 1);
        fine(11, 0, 12, 1, 13, 0, 14, 0);
        Edges.duePoked(S, 13, 11, 0, 12, 0, 13, 0, 14, 0);
        Edges.duePoked(S, 17, 15, 0, 16, 100, 17, 0, 18, 0);
        Edges.duePoked(S, 17, 15, 0, 16, 0, 17, 0, 18, 0);
    }

    private static void texels() {
        fine(21, 0);
        fine(21, 15);
        wrong(21, 16);
        wrong(21, 255);
        MapMaker four = new MapMaker().texture(1, 1, 0, 15, 15, 16).sector(0, 1, 0, 0, 0, 0, 0);
        Edges.dueMap(S, "the last of four", four.bytes(), 3, 7 + 2 + 3);
    }

    private static void textureSizes() {
        for (int wide = 0; wide <= 4; wide++) {
            for (int high = 0; high <= 4; high++) {
                MapMaker map = new MapMaker().texture(wide, high, new int[1 << wide + high]).sector(0, 1, 0, 0, 0, 0, 0);
                Edges.dueMap(S, wide + ", " + high, map.bytes(), 0, -1);
            }
        }
        for (int power : new int[] {5, 16, 255}) {
            wrong(19, power);
            wrong(20, power);
        }
    }

    // Column 31 of the view sees the floor at (58, 0) in its row 46: the first texel of a texture of 2 by 2 is 1, those behind it 2, 3, 4.
    private static void texelRows() {
        int[][] cases = {{0, 0, 1}, {1, 0, 2}, {0, 1, 3}, {1, 1, 4}};
        for (int[] c : cases) {
            MapMaker map = new MapMaker().texture(1, 1, 1, 2, 3, 4).sector(0, 60, 0, 0, 15, 0, 0).vertex(100, 200).vertex(100, -200)
                .plainWall(0, 1, 0, NO, 0, 0).start(c[0], c[1], 0, 0);
            S.due(c[0] + ", " + c[1], Give.withMap(map).pixelAt(31, 46) / 16, c[2]);
        }
        MapMaker wide = new MapMaker().texture(1, 0, 6, 7).sector(0, 60, 0, 0, 15, 0, 0).vertex(100, 200).vertex(100, -200)
            .plainWall(0, 1, 0, NO, 0, 0).start(1, 1, 0, 0);
        S.due("2 by 1", Give.withMap(wide).pixelAt(31, 46) / 16, 7);
        MapMaker high = new MapMaker().texture(0, 1, 6, 7).sector(0, 60, 0, 0, 15, 0, 0).vertex(100, 200).vertex(100, -200)
            .plainWall(0, 1, 0, NO, 0, 0).start(1, 0, 0, 0);
        S.due("1 by 2", Give.withMap(high).pixelAt(31, 46) / 16, 6);
    }

    private static MapMaker heightsOf(int floor, int ceiling) {
        return new MapMaker().texture(0, 0, 5).sector(floor, ceiling, 0, 0, 0, 0, 0);
    }

    private static void dueHeights(int floor, int ceiling, int fault, int place) {
        Edges.dueMap(S, floor + " .. " + ceiling, heightsOf(floor, ceiling).bytes(), fault, place);
    }

    private static void ceilingAboveFloor() {
        dueHeights(7, 8, 0, -1);
        dueHeights(7, 7, 3, 12);
        dueHeights(7, 6, 3, 12);
        dueHeights(-7, -6, 0, -1);
        dueHeights(-7, -7, 3, 12);
        dueHeights(-7, -8, 3, 12);
        dueHeights(-1, 0, 0, -1);
        dueHeights(0, -1, 3, 12);
    }

    private static void heights() {
        dueHeights(-1024, 1024, 0, -1);
        dueHeights(-1024, -1023, 0, -1);
        dueHeights(1023, 1024, 0, -1);
        dueHeights(-1025, 0, 3, 10);
        dueHeights(-32768, 0, 3, 10);
        dueHeights(1025, 1024, 3, 10);
        dueHeights(32767, 0, 3, 10);
        dueHeights(1024, 1025, 3, 12);
        dueHeights(0, 1025, 3, 12);
        dueHeights(0, 32767, 3, 12);
        dueHeights(0, -32768, 3, 12);
        SectorView view = Give.withMap(heightsOf(-1024, 1024));
        S.dueSector("the whole way", view, 0, -1024, 1024);
    }

    private static void sectorTextures() {
        fine(26, 0);
        wrong(26, 1);
        wrong(26, 254);
        wrong(26, 255);
        fine(27, 0);
        fine(27, 255);
        wrong(27, 1);
        wrong(27, 254);
    }

    private static void lights() {
        fine(28, 0);
        fine(28, 15);
        wrong(28, 16);
        wrong(28, 255);
    }

    private static void sectorKinds() {
        fine(29, 0);
        fine(29, 3);
        wrong(29, 4);
        wrong(29, 255);
    }

    private static void tags() {
        fine(30, 0);
        fine(30, 255);
        fine(53, 0);
        fine(53, 255);
    }

    private static void wallEnds() {
        fine(40, 2, 41, 1);
        Edges.duePoked(S, 41, 40, 0, 41, 0);
        Edges.duePoked(S, 41, 40, 2, 41, 2);
        wrong(40, 3);
        wrong(40, 255);
        wrong(41, 3);
        wrong(41, 255);
        Edges.duePoked(S, 40, 40, 3, 41, 3);
        MapMaker none = Edges.least().plainWall(0, 1, 0, NO, 0, 0);
        Edges.dueMap(S, "a wall where there is no vertex", none.bytes(), 3, none.wallPlace(0));
    }

    private static void wallSides() {
        fine(56, 0, 57, 0);
        fine(56, 1, 57, 1);
        fine(43, 1);
        fine(43, 255);
        wrong(42, 2);
        wrong(42, 255);
        wrong(43, 2);
        wrong(43, 254);
    }

    private static void wallTextures() {
        for (int place = 58; place < 64; place++) {
            fine(place, 0);
            fine(place, 255);
            wrong(place, 1);
            wrong(place, 254);
        }
    }

    private static void texturesWithoutBack() {
        for (int place = 44; place < 47; place++) {
            fine(place, 0);
        }
        for (int place = 47; place < 50; place++) {
            wrong(place, 0);
            Edges.duePoked(S, FINE, 43, 0, place, 0);
        }
        fine(47, 255, 48, 255, 49, 255);
    }

    private static void offsets() {
        for (int b : new int[] {0, 15, 16, 240, 255}) {
            fine(50, b);
        }
    }

    private static void pegs() {
        for (int set = 0; set < 4; set++) {
            fine(51, set);
        }
        wrong(51, 4);
        wrong(51, 255);
    }

    private static void wallKinds() {
        fine(52, 0);
        fine(52, 5);
        wrong(52, 6);
        wrong(52, 255);
    }

    private static void starts() {
        for (int[] place : new int[][] {{-32768, 32767}, {32767, -32768}, {0, 0}}) {
            MapMaker map = Edges.least().start(place[0], place[1], 63, 0);
            S.dueWalker("a place", Give.withMap(map), place[0], place[1], 63, 0, 41, 0);
        }
        fine(72, 0);
        fine(72, 63);
        wrong(72, 64);
        wrong(72, 255);
        fine(73, 0);
        fine(73, 1);
        wrong(73, 2);
        wrong(73, 255);
    }

    private static void vertexCounts() {
        Edges.dueMap(S, "none", Edges.least().bytes(), 0, -1);
        MapMaker map = Edges.least();
        for (int i = 0; i < 128; i++) {
            map.vertex(i, -i);
        }
        Edges.dueMap(S, "128", map.bytes(), 0, -1);
        S.due("lookAt(0)", Give.withMap(map).lookAt(0), 128);
        Edges.dueMap(S, "129", map.vertex(200, 0).bytes(), 3, 3);
        wrong(3, 129);
        wrong(3, 255);
    }

    private static void textureCounts() {
        int[] none = {77, 72, 1, 0, 0, 1, 0, 0, 0, 0, 1, 0, 255, 0, 0, 0, 0, 0, 0, 0, 0, 0};
        Edges.dueMap(S, "none: only a floor's texture is missing then", MapMaker.checked(none), 3, 11);
        MapMaker map = new MapMaker().sector(0, 1, 15, 15, 0, 0, 0);
        for (int i = 0; i < 16; i++) {
            map.texture(0, 0, i);
        }
        Edges.dueMap(S, "16", map.bytes(), 0, -1);
        S.due("lookAt(1)", Give.withMap(map).lookAt(1), 16);
        Edges.dueMap(S, "17", map.texture(0, 0, 0).bytes(), 3, 4);
        wrong(4, 17);
        wrong(4, 255);
    }

    private static void sectorCounts() {
        Edges.dueMap(S, "1", Edges.least().bytes(), 0, -1);
        wrong(5, 0);
        MapMaker map = new MapMaker().texture(0, 0, 0);
        for (int i = 0; i < 32; i++) {
            map.sector(i, 40 + i, 0, 0, 0, 0, 0);
        }
        Edges.dueMap(S, "32", map.start(0, 0, 0, 31).bytes(), 0, -1);
        SectorView view = Give.withMap(map);
        S.due("lookAt(2)", view.lookAt(2), 32);
        S.dueSector("the last one", view, 31, 31, 71);
        Edges.dueMap(S, "33", map.sector(0, 1, 0, 0, 0, 0, 0).bytes(), 3, 5);
        wrong(5, 33);
        wrong(5, 255);
    }

    private static void wallCounts() {
        Edges.dueMap(S, "none", Edges.least().bytes(), 0, -1);
        MapMaker map = Edges.least();
        for (int i = 0; i < 66; i++) {
            map.vertex(i * 20, i % 2 * 20);
        }
        for (int i = 0; i < 64; i++) {
            map.plainWall(i, i + 1, 0, NO, 0, 0).plainWall(i, i + 2, 0, NO, 0, 0);
        }
        Edges.dueMap(S, "128", map.bytes(), 0, -1);
        S.due("lookAt(3)", Give.withMap(map).lookAt(3), 128);
        Edges.dueMap(S, "129", map.plainWall(64, 65, 0, NO, 0, 0).bytes(), 3, 6);
        wrong(6, 129);
        wrong(6, 255);
    }

    private static void dueStart(int high, int low, int value) {
        SectorView view = new SectorView();
        Give.map(view, Edges.poked(68, high, 69, low, 70, low, 71, high));
        S.due(high + ", " + low + ": x", view.walkerOf(0), value);
        S.due(low + ", " + high + ": y", view.walkerOf(1), (short) (256 * low + high));
    }

    private static void twoBytes() {
        dueStart(0, 1, 1);
        dueStart(1, 0, 256);
        dueStart(127, 255, 32767);
        dueStart(128, 0, -32768);
        dueStart(255, 255, -1);
        dueStart(255, 0, -256);
        dueStart(0, 255, 255);
        dueStart(0, 0, 0);
    }

    /** The known map with other tags, so that its check is this; null if there is none. */
    private static int[] withCheck(int first, int second) {
        for (int tags = 0; tags < 1 << 24; tags++) {
            int[] bytes = Edges.poked(30, tags >> 16, 53, tags >> 8 & 255, 67, tags & 255);
            if (bytes[Edges.KNOWN_CHECK] == first && bytes[Edges.KNOWN_CHECK + 1] == second) {
                return bytes;
            }
        }
        return null;
    }

    private static void checkSums() {
        int at = Edges.KNOWN_CHECK;
        for (int[] check : new int[][] {{0, 0}, {250, 250}, {0, 250}, {250, 0}, {4, 4}}) {
            int[] bytes = withCheck(check[0], check[1]);
            Edges.dueMap(S, "a check of " + check[0] + ", " + check[1], bytes, 0, -1);
            for (int i = 0; i < 2; i++) {
                int[] more = bytes.clone();
                more[at + i] = check[i] == 250 ? 255 : check[i] + 251;
                Edges.dueMap(S, check[i] + " is not " + more[at + i], more, 4, at + i);
                more[at + i] = (check[i] + 1) % 251;
                Edges.dueMap(S, check[i] + " is not " + more[at + i], more, 4, at + i);
            }
        }
    }

    private static void loading() {
        SectorView view = Give.withMap(new Corridor().sector(0, 100, 9, 0, 0).sector(0, 40, 9, 0, 0).wall(50, 0, 1, 1, 0).map);
        view.addInput(1, 2, 3, true);
        view.startAt(5, 6, 7, 0);
        view.stepBy(0, 0, -7, true);
        S.due("a door goes", view.lookAt(11), 1);
        S.due("loadMap() of no map", Give.map(view, 1, 2, 3), 2);
        S.due("the run stays", view.lookAt(4), 1);
        S.dueWalker("the walker stays", view, 5, 6, 0, 0, 41, 1);
        S.due("the door goes on", view.lookAt(11), 1);
        S.due("loadMap()", Give.map(view, Edges.known()), 0);
        S.due("THE RUN is empty", view.lookAt(4), 0);
        S.dueWalker("at START", view, 30, -30, 63, 1, 25, 0);
        S.due("nothing moves", view.lookAt(11), 0);
        S.due("vertices", view.lookAt(0), 3);
        S.dueSector("its sectors", view, 1, -16, 90, 15, -1, 0);
        view.stepBy(0, 0, 1, false);
        view.playTo(0);
        S.dueWalker("START is the map's", view, 30, -30, 63, 1, 25, 0);
        S.due("the same map again", Give.map(view, Edges.known()), 0);
        S.due("two more were read", view.lookAt(12), 3);
    }

    private static MapMaker small() {
        return new Corridor().sector(0, 100, 9, 0, 7).sector(0, 40, 9, 0, 0).wall(50, 0, 1, 1, 0).map;
    }

    /** A map that begins like the small one, with more of all. */
    private static MapMaker large() {
        Corridor corridor = new Corridor().sector(50, 90, 3, 0, 7).sector(60, 70, 3, 0, 0).sector(-90, 20, 3, 0, 7);
        return corridor.wall(50, 0, 1, 2, 7).wall(30, 2, 0, 3, 7).wall(60, 1, 2, 0, 0).solid(10, 2).map;
    }

    // Twice, as an object may keep one map while it reads the next.
    private static void nothingIsLeft() {
        SectorView view = new SectorView();
        Give.map(view, large().bytes());
        Give.map(view, large().bytes());
        view.stepBy(20, 0, 0, true);
        Give.map(view, small().bytes());
        SectorView other = Give.withMap(small());
        for (int which = 0; which < 12; which++) {
            S.due("lookAt(" + which + ")", view.lookAt(which), other.lookAt(which));
        }
        for (int what = 0; what < 6; what++) {
            S.due("nodeOf(0, " + what + ")", view.nodeOf(0, what), other.nodeOf(0, what));
            S.due("nodeOf(1, " + what + ")", view.nodeOf(1, what), other.nodeOf(1, what));
        }
        S.due("leafOf(0, 0)", view.leafOf(0, 0), other.leafOf(0, 0));
        S.due("leafOf(90, 0)", view.leafOf(90, 0), other.leafOf(90, 0));
        S.due("frameOf()", view.frameOf(), other.frameOf());
        S.due("sectorOf(2, 0)", view.sectorOf(2, 0), 100000);
        for (int i = 0; i < 30; i++) {
            S.due("stepBy", view.stepBy(45 - 3 * i, 0, 0, true), other.stepBy(45 - 3 * i, 0, 0, true));
            S.dueWalker("step " + i, view, other.walkerOf(0), other.walkerOf(1), other.walkerOf(2), other.walkerOf(3));
            S.dueSector("step " + i, view, 1, other.sectorOf(1, 0), other.sectorOf(1, 1), 9, other.sectorOf(1, 3));
        }
        neighboursOfTheMap();
    }

    // What the heights beside a sector are is asked of the walls of this map alone.
    private static void neighboursOfTheMap() {
        for (int kind : new int[] {2, 3, 5}) {
            Corridor many = new Corridor().sector(0, 200, 9, 0, 7).sector(-50, 90, 9, 0, 0).sector(70, 220, 9, 0, 0)
                .wall(20, 0, 0, kind, 7).wall(50, 0, 1, 0, 0).wall(60, 0, 2, 0, 0);
            Corridor few = new Corridor().sector(0, 200, 9, 0, 7).sector(0, 400, 9, 0, 0).sector(kind == 2 ? -70 : 70, 90, 9, 0, 0)
                .wall(20, 0, 0, kind, 7).wall(50, 0, 1, 0, 0);
            SectorView view = new SectorView();
            Give.map(view, many.map.bytes());
            Give.map(view, many.map.bytes());
            Give.map(view, few.map.bytes());
            SectorView other = few.view();
            view.stepBy(30, 0, 0, false);
            other.stepBy(30, 0, 0, false);
            for (int i = 0; i < 40; i++) {
                S.dueSector("kind " + kind, view, 0, other.sectorOf(0, 0), other.sectorOf(0, 1), 9, other.sectorOf(0, 3));
                view.stepBy(0, 0, 0, false);
                other.stepBy(0, 0, 0, false);
            }
        }
    }

    private static void savedStart() {
        SectorView view = new SectorView();
        Give.map(view, Edges.known());
        view.startAt(1, 2, 3, 0);
        S.due("saveMap()", view.saveMap(), Edges.known().length);
        S.dueWritten("startAt() is nothing to it", view, Edges.known());
        Give.run(view, new RunMaker(4, 5, 6, 0).group(3, 9, 0, 0, false).bytes());
        view.playTo(3);
        S.due("saveMap()", view.saveMap(), Edges.known().length);
        S.dueWritten("nor is loadDemo()", view, Edges.known());
        SectorView moved = new Corridor().sector(0, 100, 9, 0, 0).sector(0, 40, 9, 0, 0).wall(50, 0, 1, 1, 0).view();
        moved.saveMap();
        int sum = 0;
        for (int i = 0; i < moved.lookAt(6); i++) {
            sum = 31 * sum + moved.byteOf(i, false);
        }
        moved.stepBy(0, 0, 0, true);
        S.due("a door goes", moved.sectorOf(1, 1), 48);
        moved.saveMap();
        int sumNow = 0;
        for (int i = 0; i < moved.lookAt(6); i++) {
            sumNow = 31 * sumNow + moved.byteOf(i, false);
        }
        S.due("what moves is nothing to it", sumNow, sum);
    }

    private static void saveNoMap() {
        SectorView view = new SectorView();
        S.due("saveMap()", view.saveMap(), -1);
        S.dueWritten("none are written", view);
        Give.map(view, 77, 72, 1);
        S.due("saveMap() behind a fault", view.saveMap(), -1);
        S.dueWritten("none are written", view);
    }
}
