/** The boundary sentences of sides, pieces and THE TREE, and of promises 21 and 22: nodeOf and leafOf. */
public final class EdgesOfTreesTest {
    private static final Sentences S = new Sentences();
    private static final int LEAST = Integer.MIN_VALUE;
    private static final int MOST = Integer.MAX_VALUE;

    public static void main(String[] args) {
        S.test("A place C lies LEFT of a WALL's line if cross(B - A, C - A) is above 0, RIGHT if it is below, ON it if it is 0.",
            EdgesOfTreesTest::sides);
        S.test("A PIECE is CUT by a line if its ends lie LEFT and RIGHT of it", EdgesOfTreesTest::cuts);
        S.test("at the quotient where the line meets it it becomes two", EdgesOfTreesTest::exactCut);
        S.test("A PIECE is a WALL from one quotient to a greater one", EdgesOfTreesTest::manyPieces);
        S.test("if it is empty it is a LEAF", EdgesOfTreesTest::empty);
        S.test("whose LINE is that of the WALL of one of its first 16 PIECES", EdgesOfTreesTest::firstSixteen);
        S.test("4 times the number of PIECES it CUTS, and the difference of how many lie LEFT and how many RIGHT of it (those that are CUT"
            + " count for both), is least", EdgesOfTreesTest::costs);
        S.test("of several the first", EdgesOfTreesTest::firstOfSeveral);
        S.test("those ON it (both ends) are the NODE's", EdgesOfTreesTest::onTheLine);
        S.test("those that lie LEFT (no end RIGHT) go to one LIST, those RIGHT to another", EdgesOfTreesTest::touching);
        S.test("of a CUT one its two PIECES go to these, each to the one where it lies, at its place", EdgesOfTreesTest::cutPieces);
        S.test("NODES are numbered from 0 on: a NODE, then all of its LEFT TREE, then all of its RIGHT one; so are LEAVES.",
            EdgesOfTreesTest::numbers);
        S.test("(NONE if that is a LEAF)", EdgesOfTreesTest::leaves);
        S.test("4: how many NODES it has in all, with itself, 5: how many have it in their LEFT or RIGHT TREE.", EdgesOfTreesTest::sizes);
        S.test("(Without WALLS there is no NODE and one LEAF.)", EdgesOfTreesTest::noWalls);
        S.test("NONE if there is none such, or no such what.", EdgesOfTreesTest::wrongNodes);
        S.test("The number of the LEAF that a place (-32768 .. 32767) is in (ON a LINE it goes RIGHT)", EdgesOfTreesTest::places);
        S.test("NONE without a MAP, or if it is none.", EdgesOfTreesTest::wrongPlaces);
        S.end();
    }

    /** Walls of vertices that are given as x, y, x, y for each, no two walls having one in common. */
    private static SectorView walls(int... ends) {
        MapMaker map = Edges.least();
        for (int i = 0; i < ends.length; i += 4) {
            map.vertex(ends[i], ends[i + 1]).vertex(ends[i + 2], ends[i + 3]).plainWall(i / 2, i / 2 + 1, 0, 0, 0, 0);
        }
        return Give.withMap(map);
    }

    private static void node(SectorView view, int k, int... answers) {
        for (int what = 0; what < answers.length; what++) {
            S.due("nodeOf(" + k + ", " + what + ")", view.nodeOf(k, what), answers[what]);
        }
    }

    private static void counts(SectorView view, int nodes, int pieces) {
        S.due("lookAt(9)", view.lookAt(9), nodes);
        S.due("lookAt(10)", view.lookAt(10), pieces);
    }

    private static void leaf(SectorView view, int x, int y, int want) {
        S.due("leafOf(" + x + ", " + y + ")", view.leafOf(x, y), want);
    }

    private static void sides() {
        SectorView view = walls(-10, -20, 20, 40);
        leaf(view, 5, 11, 0);
        leaf(view, 5, 10, 1);
        leaf(view, 5, 9, 1);
        leaf(view, 10000, 20001, 0);
        leaf(view, 10000, 20000, 1);
        SectorView turned = walls(20, 40, -10, -20);
        leaf(turned, 5, 11, 1);
        leaf(turned, 5, 10, 1);
        leaf(turned, 5, 9, 0);
        SectorView shortest = walls(0, 0, 1, 0);
        leaf(shortest, 5, 1, 0);
        leaf(shortest, 5, 0, 1);
        leaf(shortest, 5, -1, 1);
        SectorView farthest = walls(-32768, -32768, 32767, 32766);
        leaf(farthest, 0, 0, 0);
        leaf(farthest, 32767, 32767, 0);
        leaf(farthest, 32767, 32766, 1);
        leaf(farthest, 32766, 32766, 0);
        leaf(farthest, 32766, 32765, 1);
        leaf(farthest, -32768, -32768, 1);
        leaf(farthest, -32768, 32767, 0);
        leaf(farthest, 32767, -32768, 1);
    }

    private static void cuts() {
        counts(walls(0, 0, 10, 0, 20, -5, 20, 5, 30, -6, 30, 6, 40, -7, 40, 7), 4, 4);
        // Each line cuts the next wall, so one of them has to.
        counts(walls(-10, -5, 15, -5, 16, -10, 16, 10, 20, 11, 0, 11, -6, 15, -6, -4), 5, 5);
        // One end ON the line is no cut.
        SectorView touched = walls(0, 0, 10, 0, 20, 0, 20, 9, 30, -9, 30, 0);
        counts(touched, 3, 3);
        node(touched, 0, 0, 1, 2, 1, 3, 0);
    }

    private static void empty() {
        SectorView view = walls();
        counts(view, 0, 0);
        leaf(view, 3, 4, 0);
        SectorView one = walls(0, 0, 10, 0);
        counts(one, 1, 1);
        node(one, 0, 0, -1, -1, 1, 1, 0);
        leaf(one, 3, 4, 0);
        leaf(one, 3, -4, 1);
    }

    private static SectorView parallel(int n) {
        int[] ends = new int[4 * n];
        for (int i = 0; i < n; i++) {
            ends[4 * i] = 10 * i;
            ends[4 * i + 2] = 10 * i;
            ends[4 * i + 3] = 5;
        }
        return walls(ends);
    }

    private static void firstSixteen() {
        node(parallel(31), 0, 15, 1, 16, 1, 31, 0);
        node(parallel(33), 0, 15, 1, 16, 1, 33, 0);
        node(parallel(64), 0, 15, 1, 16, 1, 64, 0);
        node(parallel(29), 0, 14, 1, 15, 1, 29, 0);
        node(parallel(30), 0, 14, 1, 15, 1, 30, 0);
        node(parallel(2), 0, 0, -1, 1, 1, 2, 0);
    }

    private static void costs() {
        // Wall 0 cuts wall 3 and has 2 on each side: 4 and 0. Walls 1 and 2 have the other three on their left: 3. Wall 3: 4 and 2.
        SectorView three = walls(1, 3, 4, -7, 5, 4, 4, 7, 3, -8, 4, -8, -5, 9, 4, 6);
        S.due("4, 3, 3, 6", three.nodeOf(0, 0), 1);
        // Walls 0 and 2 cut one and have 2 on each side: 4. Walls 1 and 4 have four on their left: 4. Wall 3: 4 and 1.
        SectorView four = walls(2, -7, 2, -6, 0, 7, -4, 1, 2, 0, 2, 9, -9, -9, 8, 3, 8, -9, 9, 5);
        S.due("4, 4, 4, 5, 4", four.nodeOf(0, 0), 0);
        // Wall 1 has one on each side: 0, though it is not the first.
        S.due("2, 0, 2", parallel(3).nodeOf(0, 0), 1);
    }

    private static void firstOfSeveral() {
        SectorView view = walls(0, 0, 10, 0, 0, 10, 10, 10);
        S.due("1 and 1", view.nodeOf(0, 0), 0);
        SectorView turned = walls(0, 10, 10, 10, 0, 0, 10, 0);
        S.due("1 and 1", turned.nodeOf(0, 0), 0);
        node(parallel(4), 0, 1, 1, 2, 1, 4, 0);
        node(parallel(3), 0, 1, 1, 2, 1, 3, 0);
    }

    private static void onTheLine() {
        SectorView view = walls(0, 0, 10, 0, 20, 0, 30, 0, 60, 0, 50, 0);
        counts(view, 1, 3);
        node(view, 0, 0, -1, -1, 3, 1, 0);
        SectorView oneEnd = walls(0, 0, 10, 0, 20, 0, 30, 1);
        counts(oneEnd, 2, 2);
        node(oneEnd, 0, 0, 1, -1, 1, 2, 0);
        SectorView far = walls(-32768, -32768, 0, 0, 1, 1, 32767, 32767);
        counts(far, 1, 2);
        SectorView nearly = walls(-32768, -32768, 0, 0, 1, 1, 32767, 32766);
        counts(nearly, 2, 2);
    }

    private static void touching() {
        SectorView view = walls(0, 0, 10, 0, 20, 0, 20, 9, 30, -9, 30, 0);
        node(view, 0, 0, 1, 2, 1, 3, 0);
        node(view, 1, 1, -1, -1, 1, 1, 1);
        node(view, 2, 2, -1, -1, 1, 1, 1);
        SectorView turned = walls(10, 0, 0, 0, 20, 0, 20, 9, 30, -9, 30, 0);
        node(turned, 0, 0, 1, 2, 1, 3, 0);
        S.due("the lower one is LEFT now", turned.nodeOf(1, 0), 2);
        S.due("the upper one is RIGHT now", turned.nodeOf(2, 0), 1);
    }

    // Four walls like a pinwheel: each line cuts the next wall.
    private static void cutPieces() {
        SectorView view = walls(-10, -5, 15, -5, 16, -10, 16, 10, 20, 11, 0, 11, -6, 15, -6, -4);
        node(view, 0, 0, 1, 4, 1, 5, 0);
        node(view, 1, 3, 2, -1, 1, 3, 1);
        node(view, 2, 2, 3, -1, 1, 2, 2);
        node(view, 3, 1, -1, -1, 1, 1, 3);
        node(view, 4, 1, -1, -1, 1, 1, 1);
        atItsPlace();
    }

    // Wall 1 cuts wall 0 at a place that is ON another line, too: that end of a PIECE is neither LEFT nor RIGHT of it.
    private static void exactCut() {
        SectorView view = walls(0, 0, -4, -1, -3, 0, -2, 2, 2, 2, 2, 0, -2, 0, 3, 3, -4, 3, -3, 1);
        counts(view, 6, 6);
        node(view, 0, 1, 1, 3, 1, 6, 0);
        node(view, 1, 0, -1, 2, 1, 2, 1);
        node(view, 2, 4, -1, -1, 1, 1, 2);
        node(view, 3, 3, -1, 4, 1, 3, 1);
        node(view, 4, 2, -1, 5, 1, 2, 2);
        node(view, 5, 0, -1, -1, 1, 1, 3);
        // Wall 3 is cut by wall 0; that quotient and the one where wall 1's line meets it have to be told apart.
        view = walls(2, -4, -1, 4, 5, 5, 2, -1, -1, 3, 1, -3, 3, 3, -6, 6, -1, -4, 0, -4);
        counts(view, 6, 6);
        node(view, 0, 4, 1, -1, 1, 6, 0);
        node(view, 1, 0, 2, 4, 1, 5, 1);
        node(view, 2, 3, 3, -1, 1, 2, 2);
        node(view, 3, 2, -1, -1, 1, 1, 3);
        node(view, 4, 1, -1, 5, 1, 2, 2);
        node(view, 5, 3, -1, -1, 1, 1, 3);
    }

    // Walls that are cut again and again, into more PIECES than there are walls at most.
    private static void manyPieces() {
        for (int seed : new int[] {6, 11}) {
            MapMaker map = RandomMap.of(seed, 3276, 10, 4000);
            NaiveTree naive = new NaiveTree(map);
            S.due("128 walls", map.walls.size(), 128);
            S.due("more pieces than that", naive.pieces > 160, true);
            SectorView view = Give.withMap(map);
            counts(view, naive.nodes.size(), naive.pieces);
            dueAs(naive, map);
        }
    }

    // A new object for each 30 nodes, as none is to be asked more than 512 times.
    private static void dueAs(NaiveTree naive, MapMaker map) {
        SectorView view = null;
        for (int k = 0; k < naive.nodes.size(); k++) {
            if (k % 30 == 0) {
                view = Give.withMap(map);
            }
            for (int what = 0; what < 6; what++) {
                S.due("nodeOf(" + k + ", " + what + ")", view.nodeOf(k, what), Math.max(-1, naive.nodes.get(k)[what]));
            }
        }
    }

    // The walls of the pinwheel in other orders: where a PIECE stands in its LIST decides which line is taken.
    private static void atItsPlace() {
        int[][] orders = {{1, 0, 2, 3}, {2, 3, 0, 1}, {3, 2, 1, 0}};
        int[][] ends = {{-10, -5, 15, -5}, {16, -10, 16, 10}, {20, 11, 0, 11}, {-6, 15, -6, -4}};
        for (int[] o : orders) {
            int[] all = new int[16];
            MapMaker map = Edges.least();
            for (int i = 0; i < 4; i++) {
                System.arraycopy(ends[o[i]], 0, all, 4 * i, 4);
                map.vertex(all[4 * i], all[4 * i + 1]).vertex(all[4 * i + 2], all[4 * i + 3]).plainWall(2 * i, 2 * i + 1, 0, 0, 0, 0);
            }
            NaiveTree naive = new NaiveTree(map);
            counts(walls(all), naive.nodes.size(), naive.pieces);
            dueAs(naive, map);
        }
    }

    private static void numbers() {
        SectorView view = parallel(7);
        int[] lines = {3, 1, 0, 2, 5, 4, 6};
        int[] lefts = {1, 2, -1, -1, 5, -1, -1};
        int[] rights = {4, 3, -1, -1, 6, -1, -1};
        for (int k = 0; k < 7; k++) {
            node(view, k, lines[k], lefts[k], rights[k]);
        }
        for (int i = 0; i < 8; i++) {
            leaf(view, 10 * i - 5, 77, i);
        }
    }

    private static void leaves() {
        SectorView left = walls(0, 0, 10, 0, 0, 10, 10, 10);
        node(left, 0, 0, 1, -1);
        node(left, 1, 1, -1, -1);
        SectorView right = walls(0, 10, 10, 10, 0, 0, 10, 0);
        node(right, 0, 0, -1, 1);
    }

    private static MapMaker ring() {
        MapMaker map = Edges.least();
        for (int i = 0; i < 128; i++) {
            double angle = 2 * Math.PI * i / 128;
            map.vertex((int) Math.round(30000 * Math.cos(angle)), (int) Math.round(30000 * Math.sin(angle)));
        }
        for (int i = 0; i < 128; i++) {
            map.plainWall(i, (i + 1) % 128, 0, 0, 0, 0);
        }
        return map;
    }

    private static void sizes() {
        int[] sizes = {7, 3, 1, 1, 3, 1, 1};
        int[] depths = {0, 1, 2, 2, 1, 2, 2};
        for (int k = 0; k < 7; k++) {
            S.due("nodeOf(" + k + ", 4)", parallel(7).nodeOf(k, 4), sizes[k]);
            S.due("nodeOf(" + k + ", 5)", parallel(7).nodeOf(k, 5), depths[k]);
        }
        SectorView view = Give.withMap(ring());
        node(view, 0, 0, 1, -1, 1, 128, 0);
        node(view, 127, 127, -1, -1, 1, 1, 127);
        leaf(view, 0, 0, 0);
        leaf(view, 32767, 1, 128);
    }

    private static void noWalls() {
        SectorView view = walls();
        counts(view, 0, 0);
        for (int what = 0; what < 6; what++) {
            S.due("nodeOf(0, " + what + ")", view.nodeOf(0, what), -1);
        }
        for (int[] p : new int[][] {{0, 0}, {-32768, -32768}, {32767, 32767}}) {
            leaf(view, p[0], p[1], 0);
        }
    }

    private static void wrongNodes() {
        SectorView view = parallel(3);
        for (int k : new int[] {-1, 3, 128, LEAST, MOST}) {
            for (int what = 0; what < 6; what++) {
                S.due("nodeOf(" + k + ", " + what + ")", view.nodeOf(k, what), -1);
            }
        }
        for (int what : new int[] {-1, 6, LEAST, MOST}) {
            S.due("nodeOf(0, " + what + ")", view.nodeOf(0, what), -1);
        }
        S.due("the last one", view.nodeOf(2, 0), 2);
        S.due("without a MAP", new SectorView().nodeOf(0, 0), -1);
        SectorView smaller = Give.withMap(ring());
        Give.map(smaller, Edges.known());
        S.due("a node of the map before", smaller.nodeOf(2, 0), -1);
        S.due("one of this map", smaller.nodeOf(1, 0), 1);
    }

    private static void places() {
        SectorView view = walls(0, 0, 10, 0, 20, 5, 20, 9);
        S.due("the node", view.nodeOf(0, 0), 0);
        leaf(view, 19, 1, 0);
        leaf(view, 20, 1, 1);
        leaf(view, 21, 1, 1);
        leaf(view, 19, 0, 2);
        leaf(view, -32768, 1, 0);
        leaf(view, -32768, 0, 2);
        leaf(view, 32767, 32767, 1);
        leaf(view, -32768, 32767, 0);
        leaf(view, 32767, -32768, 2);
        leaf(view, -32768, -32768, 2);
    }

    private static void wrongPlaces() {
        SectorView view = walls(0, 0, 10, 0);
        for (int v : new int[] {-32769, 32768, -40000, 40000, LEAST, MOST}) {
            leaf(view, v, 0, -1);
            leaf(view, 0, v, -1);
            leaf(walls(), v, 0, -1);
            leaf(walls(), 0, v, -1);
        }
        leaf(new SectorView(), 0, 0, -1);
    }
}
