/** The sentences of the FAULTS of a MAP: each fault, its place, and which of several is seen first. */
public final class EdgesOfMapFaultsTest {
    private static final Sentences S = new Sentences();
    private static final int NO = MapMaker.NO;
    private static final int CHECK = Edges.KNOWN_CHECK;

    public static void main(String[] args) {
        S.test("that which is seen first, from byte to byte", EdgesOfMapFaultsTest::seenFirst);
        S.test("1: the BYTES end where one is to be read (how many there are).", EdgesOfMapFaultsTest::tooFew);
        S.test("2: one of the first three is another one (its place).", EdgesOfMapFaultsTest::firstThree);
        S.test("3: a number that can not be there (whatever is said above; also of a VERTEX, TEXTURE or SECTOR that there is none)",
            EdgesOfMapFaultsTest::numbers);
        S.test("or a VERTEX that is where another one is", EdgesOfMapFaultsTest::vertexTwice);
        S.test("or a WALL whose VERTICES are one", EdgesOfMapFaultsTest::oneVertex);
        S.test("or a TEXTURE of a BACK that there is none", EdgesOfMapFaultsTest::noBack);
        S.test("the place of the first byte of that number", EdgesOfMapFaultsTest::firstByte);
        S.test("of y for a VERTEX", EdgesOfMapFaultsTest::yPlace);
        S.test("of the second VERTEX for a WALL", EdgesOfMapFaultsTest::secondVertexPlace);
        S.test("of the CEILING where it is not above the FLOOR", EdgesOfMapFaultsTest::ceilingPlace);
        S.test("4: the CHECK (the place of its first byte that is another one).", EdgesOfMapFaultsTest::check);
        S.test("5: bytes are left behind (the place of the first one).", EdgesOfMapFaultsTest::leftBehind);
        S.test("6 (looked for when all else is right)", EdgesOfMapFaultsTest::allElseFirst);
        S.test("a WALL has a place in common with one of a lower number, but a VERTEX of both", EdgesOfMapFaultsTest::inCommon);
        S.test("so also with the same two VERTICES", EdgesOfMapFaultsTest::sameVertices);
        S.test("along another one", EdgesOfMapFaultsTest::along);
        S.test("or with a VERTEX within one", EdgesOfMapFaultsTest::vertexWithin);
        S.test("the place of its first byte; the first such WALL", EdgesOfMapFaultsTest::firstSuchWall);
        S.end();
    }

    private static void due(String what, int[] bytes, int fault, int place) {
        Edges.dueMap(S, what, bytes, fault, place);
    }

    private static void seenFirst() {
        int[] known = Edges.known();
        due("2 ahead of 3", Edges.with(Edges.with(known, 2, 2), 3, 200), 2, 2);
        due("2 ahead of 1", new int[] {77, 71}, 2, 1);
        due("3 ahead of 1", Edges.first(4, Edges.with(known, 3, 129)), 3, 3);
        due("1 ahead of 3: there is nothing to be seen", Edges.first(3, known), 1, 3);
        due("the first 3 of two", Edges.poked(28, 16, 29, 4), 3, 28);
        due("3 ahead of 4", Edges.with(known, 73, 2), 3, 73);
        due("3 ahead of 5", Edges.first(CHECK + 3, Edges.with(known, 72, 64)), 3, 72);
        due("3 ahead of 6", Edges.poked(55, 1, 67, 0, 66, 6), 3, 66);
        due("4 ahead of 5", Edges.first(CHECK + 3, Edges.with(known, CHECK + 1, 255)), 4, CHECK + 1);
        due("4 ahead of 1: the first byte of two is another one", Edges.first(CHECK + 1, Edges.with(known, CHECK, 255)), 4, CHECK);
        due("1 ahead of 4: the second one is not there", Edges.first(CHECK + 1, known), 1, CHECK + 1);
        due("1 where a number has one of two bytes", Edges.first(23, Edges.with(known, 22, 127)), 1, 23);
        due("1 where a vertex has one of two bytes of y", Edges.first(14, Edges.poked(11, 0, 12, 0, 13, 0, 14, 0)), 1, 14);
    }

    private static void tooFew() {
        due("none", new int[0], 1, 0);
        int[] known = Edges.known();
        for (int n = 1; n < known.length; n++) {
            due("the first " + n, Edges.first(n, known), 1, n);
        }
        due("all", known, 0, -1);
        SectorView view = new SectorView();
        Give.bytes(view, known);
        view.cutBytes(known.length - 1);
        S.due("bytes that were cut are not there", view.loadMap(), 1);
        S.due("lookAt(8)", view.lookAt(8), known.length - 1);
    }

    private static void firstThree() {
        int[] right = {77, 72, 1};
        for (int place = 0; place < 3; place++) {
            for (int b : new int[] {right[place] - 1, right[place] + 1, 0, 255}) {
                due("byte " + place + " is " + b, Edges.poked(place, b), b == right[place] ? 0 : 2, place);
            }
        }
        due("a run", new RunMaker(0, 0, 0, 0).bytes(), 2, 1);
    }

    private static void numbers() {
        int[][] wrong = {{3, 129}, {4, 17}, {5, 33}, {5, 0}, {6, 129}, {19, 5}, {20, 5}, {21, 16}, {26, 1}, {27, 1}, {28, 16}, {29, 4},
            {40, 3}, {41, 3}, {42, 2}, {43, 2}, {44, 1}, {45, 1}, {46, 1}, {51, 4}, {52, 6}, {58, 1}, {63, 1}, {72, 64}, {73, 2}};
        for (int[] w : wrong) {
            due("byte " + w[0] + " is " + w[1], Edges.poked(w), 3, w[0]);
            due("nothing behind it is read", Edges.first(w[0] + 1, Edges.poked(w)), 3, w[0]);
        }
    }

    private static void vertexTwice() {
        MapMaker map = Edges.least();
        for (int i = 0; i < 127; i++) {
            map.vertex(i, 0);
        }
        due("the last where the first is", map.vertex(0, 0).bytes(), 3, 7 + 4 * 127 + 2);
        map.vertices.set(127, new int[] {126, 0});
        due("the last where the one ahead of it is", map.bytes(), 3, 7 + 4 * 127 + 2);
        map.vertices.set(127, new int[] {126, 1});
        due("another y", map.bytes(), 0, -1);
        map.vertices.set(127, new int[] {0, 126});
        due("turned around", map.bytes(), 0, -1);
        map.vertices.set(1, new int[] {0, 0});
        map.vertices.set(127, new int[] {0, 0});
        due("the first of two such", map.bytes(), 3, 7 + 4 + 2);
    }

    private static void oneVertex() {
        for (int vertex = 0; vertex < 3; vertex++) {
            for (int other = 0; other < 3; other++) {
                boolean one = vertex == other;
                boolean twice = vertex + other == 2 && !one;
                due(vertex + ", " + other, Edges.poked(40, vertex, 41, other), one ? 3 : twice ? 6 : 0, one ? 41 : 54);
            }
        }
    }

    private static void noBack() {
        for (int place = 47; place < 50; place++) {
            due("a texture that there is", Edges.poked(place, 0), 3, place);
            due("one that there is not", Edges.poked(place, 254), 3, place);
            due("with a back", Edges.poked(43, 1, place, 0), 0, -1);
        }
        due("the front's", Edges.poked(44, 0, 45, 0, 46, 0), 0, -1);
    }

    private static void firstByte() {
        due("a floor of 1025", Edges.poked(22, 4, 23, 1, 24, 4, 25, 0), 3, 22);
        due("a floor of -1025", Edges.poked(22, 251, 23, 255), 3, 22);
        due("a ceiling of 1025", Edges.poked(24, 4, 25, 1), 3, 24);
        due("the second sector's floor", Edges.poked(31, 128, 32, 0), 3, 31);
    }

    private static void yPlace() {
        due("the second one", Edges.poked(11, 0, 12, 0, 13, 0, 14, 0), 3, 13);
        due("the third one, where the first is", Edges.poked(15, 0, 16, 0, 17, 0, 18, 0), 3, 17);
        due("the third one, where the second is", Edges.poked(15, 0, 16, 100, 17, 0, 18, 0), 3, 17);
        due("seen when all of y is read", Edges.first(19, Edges.poked(15, 0, 16, 0, 17, 0, 18, 0)), 3, 17);
        due("not ahead of that", Edges.first(18, Edges.poked(15, 0, 16, 0, 17, 0, 18, 0)), 1, 18);
    }

    private static void secondVertexPlace() {
        due("the first wall", Edges.poked(40, 1, 41, 1), 3, 41);
        due("the second wall", Edges.poked(54, 0, 55, 0), 3, 55);
        due("seen when it is read", Edges.first(42, Edges.poked(40, 1, 41, 1)), 3, 41);
        due("not ahead of that", Edges.first(41, Edges.poked(40, 1, 41, 1)), 1, 41);
        due("one that is none is seen ahead of it", Edges.poked(40, 9, 41, 9), 3, 40);
    }

    private static void ceilingPlace() {
        due("as high", Edges.poked(22, 0, 23, 100), 3, 24);
        due("lower", Edges.poked(22, 0, 23, 101), 3, 24);
        due("1 higher", Edges.poked(22, 0, 23, 99), 0, -1);
        due("lower than a floor below 0", Edges.poked(33, 255, 34, 239), 3, 33);
        due("both of it are to be read", Edges.first(25, Edges.poked(24, 255, 25, 255)), 1, 25);
    }

    private static void check() {
        int[] known = Edges.known();
        for (int more = 1; more < 256; more += 50) {
            due("the first", Edges.with(known, CHECK, (known[CHECK] + more) % 256), 4, CHECK);
            due("the second", Edges.with(known, CHECK + 1, (known[CHECK + 1] + more) % 256), 4, CHECK + 1);
        }
        due("both", Edges.with(Edges.with(known, CHECK, 255), CHECK + 1, 255), 4, CHECK);
        due("a byte that it is of: the sums differ by 1", Edges.with(known, 30, 1), 4, CHECK);
        due("two bytes that are turned around: only the second sum differs", Edges.with(Edges.with(known, 68, 30), 69, 0), 4, CHECK + 1);
    }

    private static void leftBehind() {
        int[] known = Edges.known();
        due("one", Edges.first(known.length + 1, known), 5, known.length);
        due("many", Edges.first(known.length + 90, known), 5, known.length);
        SectorView view = new SectorView();
        Give.bytes(view, Edges.first(known.length + 1, known));
        view.cutBytes(known.length);
        S.due("none any more", view.loadMap(), 0);
    }

    private static void allElseFirst() {
        int[] crossed = Edges.poked(55, 1);
        due("the same vertices", crossed, 6, 54);
        due("1 is seen first", Edges.first(crossed.length - 1, crossed), 1, crossed.length - 1);
        due("2 is seen first", Edges.poked(55, 1, 2, 0), 2, 2);
        due("3 behind it is seen first", Edges.poked(55, 1, 73, 2), 3, 73);
        due("4 is seen first", Edges.with(crossed, CHECK + 1, 255), 4, CHECK + 1);
        due("5 is seen first", Edges.first(crossed.length + 1, crossed), 5, crossed.length);
    }

    /** Walls of vertices that are given as x, y, x, y for each; vertices at the same place are one. */
    private static MapMaker walls(int... ends) {
        MapMaker map = Edges.least();
        for (int i = 0; i < ends.length; i += 4) {
            int a = vertexAt(map, ends[i], ends[i + 1]);
            int b = vertexAt(map, ends[i + 2], ends[i + 3]);
            map.plainWall(a, b, 0, NO, 0, 0);
        }
        return map;
    }

    private static int vertexAt(MapMaker map, int x, int y) {
        for (int i = 0; i < map.vertices.size(); i++) {
            if (map.vertices.get(i)[0] == x && map.vertices.get(i)[1] == y) {
                return i;
            }
        }
        map.vertex(x, y);
        return map.vertices.size() - 1;
    }

    /** Two walls, either of them first and either way round: fault 6 at the second one, or none. */
    private static void dueTwo(String what, boolean fault, int... e) {
        int[][] orders = {{0, 1, 2, 3}, {1, 0, 2, 3}, {0, 1, 3, 2}, {1, 0, 3, 2}, {2, 3, 0, 1}, {3, 2, 0, 1}, {2, 3, 1, 0}, {3, 2, 1, 0}};
        for (int[] o : orders) {
            MapMaker map = walls(e[2 * o[0]], e[2 * o[0] + 1], e[2 * o[1]], e[2 * o[1] + 1],
                e[2 * o[2]], e[2 * o[2] + 1], e[2 * o[3]], e[2 * o[3] + 1]);
            due(what, map.bytes(), fault ? 6 : 0, map.wallPlace(1));
        }
    }

    private static void inCommon() {
        dueTwo("across", true, 0, 0, 10, 10, 0, 10, 10, 0);
        dueTwo("across, upright", true, 0, -5, 0, 5, -5, 0, 5, 0);
        dueTwo("across at no whole place", true, 0, 0, 3, 1, 1, 1, 2, 0);
        dueTwo("a vertex of both", false, 0, 0, 10, 0, 10, 0, 20, 7);
        dueTwo("a vertex of both, back at a sharp angle", false, 0, 0, 10, 0, 10, 0, 0, 1);
        dueTwo("a vertex of both, straight on", false, 0, 0, 10, 0, 10, 0, 20, 0);
        dueTwo("a vertex of both, straight on, upright", false, 0, 0, 0, 10, 0, 10, 0, 20);
        dueTwo("a vertex of both, straight on, 1 each", false, 0, 0, 0, 1, 0, 1, 0, 2);
        dueTwo("none", false, 0, 0, 10, 0, 0, 1, 10, 1);
        dueTwo("the lines meet, the walls do not", false, 0, 0, 10, 0, 5, 1, 5, 9);
        dueTwo("the lines meet beyond an end", false, 0, 0, 10, 0, 11, -5, 11, 5);
        dueTwo("from corner to corner", true, -32768, -32768, 32767, 32767, -32768, 32767, 32767, -32768);
        dueTwo("close by a long one", false, -32768, -32768, 32767, 32766, 0, 0, 1, 1);
        dueTwo("one end each side of a long one", true, -32768, -32768, 32767, 32766, 0, 0, 1, -1);
    }

    private static void sameVertices() {
        dueTwo("the same", true, 0, 0, 10, 3, 0, 0, 10, 3);
        dueTwo("the shortest", true, 0, 0, 1, 0, 0, 0, 1, 0);
        dueTwo("the shortest, upright", true, 7, 7, 7, 8, 7, 7, 7, 8);
        dueTwo("the farthest", true, -32768, -32768, 32767, 32767, -32768, -32768, 32767, 32767);
    }

    private static void along() {
        dueTwo("from a vertex of both", true, 0, 0, 10, 0, 0, 0, 5, 0);
        dueTwo("from a vertex of both, aslant", true, 0, 0, 9, 6, 0, 0, 3, 2);
        dueTwo("from a vertex of both, upright", true, 0, 0, 0, 10, 0, 0, 0, 1);
        dueTwo("within it", true, 0, 0, 10, 0, 3, 0, 7, 0);
        dueTwo("half of it", true, 0, 0, 10, 0, 9, 0, 15, 0);
        dueTwo("half of it, aslant", true, 0, 0, 4, 4, 3, 3, 8, 8);
        dueTwo("apart on one line", false, 0, 0, 10, 0, 11, 0, 15, 0);
        dueTwo("apart on one line, aslant", false, 0, 0, 4, 4, 5, 5, 8, 8);
        dueTwo("apart on one line, upright", false, 0, 0, 0, 4, 0, 5, 0, 8);
    }

    private static void vertexWithin() {
        dueTwo("on a level wall", true, 0, 0, 10, 0, 5, 0, 5, 9);
        dueTwo("on an upright wall", true, 0, 0, 0, 10, 0, 5, 9, 5);
        dueTwo("on a wall aslant", true, 0, 0, 9, 6, 3, 2, 5, 0);
        dueTwo("just beside it", false, 0, 0, 9, 6, 3, 1, 5, 0);
        dueTwo("next to its end", true, 0, 0, 10, 0, 9, 0, 10, 1);
    }

    private static void firstSuchWall() {
        MapMaker map = walls(0, 0, 10, 0, 20, 0, 30, 0, 5, -5, 5, 5, 25, -5, 25, 5);
        due("two such", map.bytes(), 6, map.wallPlace(2));
        map = walls(20, 0, 30, 0, 0, 0, 10, 0, 25, -5, 25, 5, 5, -5, 5, 5);
        due("the lowest of those that cross one of a lower number", map.bytes(), 6, map.wallPlace(2));
        map = walls(0, 0, 10, 0, 20, 0, 30, 0, 40, 0, 50, 0, 5, -5, 5, 5);
        due("the last one with the first", map.bytes(), 6, map.wallPlace(3));
        map = walls(0, 0, 10, 0, 20, 0, 30, 0, 40, 0, 50, 0, 45, -5, 45, 5);
        due("the last one with the one ahead of it", map.bytes(), 6, map.wallPlace(3));
        map = walls(0, 0, 10, 0, 5, -5, 5, 5, 4, -4, 6, 4);
        due("not the last such", map.bytes(), 6, map.wallPlace(1));
    }
}
