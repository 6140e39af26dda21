/** Promises 21 and 22: the tree of a map's walls, and its leaves. */
public final class TreeTest {
    private static final Checks CHECKS = new Checks();

    public static void main(String[] args) {
        noWall();
        oneWall();
        square();
        cutWall();
        onTheLine();
        firstSixteen();
        chain();
        wrongOnes();
        anotherMap();
        CHECKS.end();
    }

    /** Walls between vertices that are given as x, y, x, y, ... */
    private static MapMaker map(int[] places, int... ends) {
        MapMaker map = new MapMaker().texture(0, 0, 0).sector(0, 99, 0, 0, 0, 0, 0);
        for (int i = 0; i < places.length; i += 2) {
            map.vertex(places[i], places[i + 1]);
        }
        for (int i = 0; i < ends.length; i += 2) {
            map.plainWall(ends[i], ends[i + 1], 0, 0, 0, 0);
        }
        return map;
    }

    private static void node(SectorView view, int k, int... answers) {
        for (int what = 0; what < answers.length; what++) {
            CHECKS.due("nodeOf(" + k + ", " + what + ")", view.nodeOf(k, what), answers[what]);
        }
    }

    private static void leaf(SectorView view, int x, int y, int want) {
        CHECKS.due("leafOf(" + x + ", " + y + ")", view.leafOf(x, y), want);
    }

    private static void counts(SectorView view, int nodes, int pieces) {
        CHECKS.due("lookAt(9)", view.lookAt(9), nodes);
        CHECKS.due("lookAt(10)", view.lookAt(10), pieces);
        CHECKS.due("no more nodes", view.nodeOf(nodes, 0), -1);
    }

    private static void noWall() {
        SectorView view = Give.withMap(map(new int[0]));
        counts(view, 0, 0);
        leaf(view, 5, -5, 0);
    }

    private static void oneWall() {
        SectorView view = Give.withMap(map(new int[] {0, 0, 10, 0}, 0, 1));
        counts(view, 1, 1);
        node(view, 0, 0, -1, -1, 1, 1, 0);
        leaf(view, 5, 1, 0);
        leaf(view, 5, -1, 1);
        leaf(view, 5, 0, 1);
        leaf(view, -32768, 0, 1);
        leaf(view, 32767, 32767, 0);
        leaf(view, -32768, -32768, 1);
    }

    // Each line has the other three walls on its left: no cut, a difference of 3; the first is taken.
    private static void square() {
        SectorView view = Give.withMap(map(new int[] {0, 0, 10, 0, 10, 10, 0, 10}, 0, 1, 1, 2, 2, 3, 3, 0));
        counts(view, 4, 4);
        for (int k = 0; k < 4; k++) {
            node(view, k, k, k < 3 ? k + 1 : -1, -1, 1, 4 - k, k);
        }
        leaf(view, 5, 5, 0);
        leaf(view, -5, 5, 1);
        leaf(view, 5, 15, 2);
        leaf(view, 15, 5, 3);
        leaf(view, 5, -5, 4);
        leaf(view, 0, 5, 1);
    }

    // Wall 0 would cut wall 1: 4. Wall 1 has wall 0 on its left: 1.
    private static void cutWall() {
        int[] places = {0, 0, 10, 0, 20, -5, 20, 15};
        SectorView view = Give.withMap(map(places, 0, 1, 2, 3));
        counts(view, 2, 2);
        node(view, 0, 1, 1, -1, 1, 2, 0);
        node(view, 1, 0, -1, -1, 1, 1, 1);
        int[] more = {0, 0, 10, 0, 20, -5, 20, 15, 30, -5, 30, 15, 40, -5, 40, 15};
        view = Give.withMap(map(more, 0, 1, 2, 3, 4, 5, 6, 7));
        counts(view, 4, 4);
        node(view, 0, 1, 1, 2, 1, 4, 0);
        node(view, 2, 2, -1, 3, 1, 2, 1);
        pinwheel();
    }

    // Each line cuts the next wall and has the other two on its left, so it can not do without a cut.
    private static void pinwheel() {
        int[] places = {-10, -5, 15, -5, 16, -10, 16, 10, 20, 11, 0, 11, -6, 15, -6, -4};
        SectorView view = Give.withMap(map(places, 0, 1, 2, 3, 4, 5, 6, 7));
        counts(view, 5, 5);
        node(view, 0, 0, 1, 4, 1, 5, 0);
        node(view, 1, 3, 2, -1, 1, 3, 1);
        node(view, 2, 2, 3, -1, 1, 2, 2);
        node(view, 3, 1, -1, -1, 1, 1, 3);
        node(view, 4, 1, -1, -1, 1, 1, 1);
        leaf(view, 0, 0, 0);
        leaf(view, 17, 0, 1);
        leaf(view, 0, 12, 2);
        leaf(view, -7, 0, 3);
        leaf(view, 0, -6, 4);
        leaf(view, 17, -6, 5);
    }

    private static void onTheLine() {
        int[] places = {0, 0, 10, 0, 20, 0, 30, 0, 30, 50, 0, -9};
        SectorView view = Give.withMap(map(places, 0, 1, 3, 2, 3, 4, 0, 5));
        node(view, 0, 0, 1, 2, 2, 3, 0);
        node(view, 1, 2, -1, -1, 1, 1, 1);
        node(view, 2, 3, -1, -1, 1, 1, 1);
        counts(view, 3, 4);
        leaf(view, 29, 5, 0);
        leaf(view, 31, 5, 1);
        leaf(view, 1, -5, 2);
        leaf(view, -1, -5, 3);
        leaf(view, 25, 0, 2);
    }

    // Parallel walls: the middle one would be best, but only the first 16 are looked at.
    private static void firstSixteen() {
        int[] places = new int[4 * 41];
        int[] ends = new int[2 * 41];
        for (int i = 0; i < 41; i++) {
            places[4 * i] = 10 * i;
            places[4 * i + 2] = 10 * i;
            places[4 * i + 3] = 5;
            ends[2 * i] = 2 * i;
            ends[2 * i + 1] = 2 * i + 1;
        }
        SectorView view = Give.withMap(map(places, ends));
        node(view, 0, 15, 1, 16, 1, 41, 0);
        node(view, 1, 7, 2, 9, 1, 15, 1);
        node(view, 16, 28, 17, 29, 1, 25, 1);
        counts(view, 41, 41);
        leaf(view, -1, 0, 0);
        leaf(view, 401, 0, 41);
    }

    // All on one side of the one ahead of it: as deep as there are walls.
    private static void chain() {
        MapMaker map = new MapMaker().texture(0, 0, 0).sector(0, 99, 0, 0, 0, 0, 0);
        for (int i = 0; i < 128; i++) {
            double angle = 2 * Math.PI * i / 128;
            map.vertex((int) Math.round(30000 * Math.cos(angle)), (int) Math.round(30000 * Math.sin(angle)));
        }
        for (int i = 0; i < 128; i++) {
            map.plainWall(i, (i + 1) % 128, 0, 0, 0, 0);
        }
        SectorView view = Give.withMap(map);
        counts(view, 128, 128);
        for (int k = 0; k < 128; k++) {
            node(view, k, k, k < 127 ? k + 1 : -1, -1, 1, 128 - k, k);
        }
        leaf(view, 0, 0, 0);
        leaf(view, 32767, 1, 128);
    }

    private static void wrongOnes() {
        SectorView view = Give.withMap(map(new int[] {0, 0, 10, 0}, 0, 1));
        CHECKS.due("nodeOf(-1, 0)", view.nodeOf(-1, 0), -1);
        CHECKS.due("nodeOf(1, 0)", view.nodeOf(1, 0), -1);
        CHECKS.due("nodeOf(most, 0)", view.nodeOf(Integer.MAX_VALUE, 0), -1);
        CHECKS.due("nodeOf(0, 6)", view.nodeOf(0, 6), -1);
        CHECKS.due("nodeOf(0, -1)", view.nodeOf(0, -1), -1);
        int[][] wrong = {{-32769, 0}, {32768, 0}, {0, -32769}, {0, 32768}};
        for (int[] w : wrong) {
            leaf(view, w[0], w[1], -1);
        }
    }

    private static void anotherMap() {
        SectorView view = Give.withMap(map(new int[] {0, 0, 10, 0, 10, 10, 0, 10}, 0, 1, 1, 2, 2, 3, 3, 0));
        Give.map(view, 1, 2, 3);
        counts(view, 4, 4);
        Give.map(view, map(new int[] {0, 0, 10, 0}, 0, 1).bytes());
        counts(view, 1, 1);
        node(view, 0, 0, -1, -1, 1, 1, 0);
        leaf(view, 5, 1, 0);
        leaf(view, 5, -1, 1);
    }
}
