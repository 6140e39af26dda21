import java.util.Arrays;

/** The boundary sentences of promise 24: lookAt, at its edges and where each of its answers changes. */
public final class EdgesOfLooksTest {
    private static final Sentences S = new Sentences();

    public static void main(String[] args) {
        S.test("which 0 .. 3: VERTICES, TEXTURES, SECTORS, WALLS of THE MAP (NONE without one)", EdgesOfLooksTest::mapParts);
        S.test("4: INPUTS of THE RUN", EdgesOfLooksTest::inputs);
        S.test("5: BYTES; 6: WRITTEN ones", EdgesOfLooksTest::bytes);
        S.test("7: the fault of the latest loadMap() or loadDemo() (0 without one)", EdgesOfLooksTest::faults);
        S.test("8: its place (NONE without one)", EdgesOfLooksTest::faultPlaces);
        S.test("9: NODES, 10: PIECES, of all NODES together (NONE without a MAP)", EdgesOfLooksTest::nodes);
        S.test("11: MOVERS (0 without a MAP)", EdgesOfLooksTest::movers);
        S.test("12: MAPS that were read.", EdgesOfLooksTest::mapsRead);
        S.test("NONE for any other which.", EdgesOfLooksTest::others);
        S.test("`NONE = -1`: There is none.", EdgesOfLooksTest::none);
        S.end();
    }

    private static SectorView known() {
        SectorView view = new SectorView();
        Give.map(view, Edges.known());
        return view;
    }

    private static void mapParts() {
        int[] parts = {3, 1, 2, 2};
        SectorView view = new SectorView();
        for (int which = 0; which < 4; which++) {
            S.due("without a MAP: " + which, view.lookAt(which), -1);
        }
        Give.map(view, Arrays.copyOf(Edges.known(), 70));
        for (int which = 0; which < 4; which++) {
            S.due("behind a fault: " + which, view.lookAt(which), -1);
        }
        Give.map(view, Edges.known());
        for (int which = 0; which < 4; which++) {
            S.due("with a MAP: " + which, view.lookAt(which), parts[which]);
        }
        Give.map(view, Edges.least().bytes());
        int[] least = {0, 1, 1, 0};
        for (int which = 0; which < 4; which++) {
            S.due("the least MAP: " + which, view.lookAt(which), least[which]);
        }
        Give.map(view, Arrays.copyOf(Edges.known(), 70));
        for (int which = 0; which < 4; which++) {
            S.due("a fault changes nothing: " + which, view.lookAt(which), least[which]);
        }
    }

    private static void inputs() {
        SectorView view = new SectorView();
        S.due("without a MAP", view.lookAt(4), 0);
        Give.map(view, Edges.known());
        S.due("none", view.lookAt(4), 0);
        view.addInput(0, 0, 0, false);
        view.addInput(0, 0, 0, false);
        S.due("two", view.lookAt(4), 2);
        view.addInput(99, 0, 0, false);
        S.due("a wrong one is none", view.lookAt(4), 2);
        view.stepBy(1, 0, 0, false);
        view.playTo(1);
        S.due("none is used up", view.lookAt(4), 2);
        view.dropInputs(1);
        S.due("one", view.lookAt(4), 1);
        Give.run(view, new RunMaker(0, 0, 0, 0).raw(63, 64, 63, 64).bytes());
        S.due("those of another run", view.lookAt(4), 126);
        Give.run(view, 77);
        S.due("a fault changes nothing", view.lookAt(4), 126);
        Give.map(view, Edges.known());
        S.due("none behind loadMap()", view.lookAt(4), 0);
    }

    private static void bytes() {
        SectorView view = new SectorView();
        S.due("BYTES", view.lookAt(5), 0);
        S.due("WRITTEN", view.lookAt(6), 0);
        view.giveBytes(0, 8);
        S.due("BYTES", view.lookAt(5), 8);
        view.cutBytes(3);
        S.due("BYTES", view.lookAt(5), 3);
        view.loadMap();
        S.due("reading takes none", view.lookAt(5), 3);
        S.due("WRITTEN", view.lookAt(6), 0);
        view = known();
        S.due("reading takes none", view.lookAt(5), 76);
        view.saveMap();
        S.due("WRITTEN", view.lookAt(6), 76);
        view.saveDemo();
        S.due("WRITTEN", view.lookAt(6), 14);
        S.due("BYTES", view.lookAt(5), 76);
        view.turnBytes();
        S.due("BYTES", view.lookAt(5), 14);
        S.due("WRITTEN", view.lookAt(6), 14);
    }

    private static void faults() {
        SectorView view = new SectorView();
        S.due("nothing was loaded", view.lookAt(7), 0);
        view.loadMap();
        S.due("loadMap()", view.lookAt(7), 1);
        Give.run(view, 76);
        S.due("loadDemo()", view.lookAt(7), 2);
        Give.map(view, Edges.known());
        S.due("none", view.lookAt(7), 0);
        view.loadDemo();
        S.due("a map is no run", view.lookAt(7), 2);
        view.saveDemo();
        view.turnBytes();
        S.due("saving is nothing to it", view.lookAt(7), 2);
        view.loadDemo();
        S.due("none", view.lookAt(7), 0);
        Give.run(view, new RunMaker(0, 0, 0, 9).bytes());
        S.due("the highest one", view.lookAt(7), 8);
        view.stepBy(99, 0, 0, false);
        view.startAt(0, 0, 99, 0);
        S.due("other calls are nothing to it", view.lookAt(7), 8);
    }

    private static void faultPlaces() {
        SectorView view = new SectorView();
        S.due("nothing was loaded", view.lookAt(8), -1);
        view.loadMap();
        S.due("place 0 is no NONE", view.lookAt(8), 0);
        Give.run(view, 77, 69);
        S.due("loadDemo()", view.lookAt(8), 1);
        Give.map(view, Edges.known());
        S.due("none", view.lookAt(8), -1);
        int[] more = Arrays.copyOf(Edges.known(), 200);
        Give.map(view, more);
        S.due("behind the map", view.lookAt(8), 76);
        Give.run(view, new RunMaker(0, 0, 0, 0).bytes());
        S.due("none", view.lookAt(8), -1);
    }

    private static void nodes() {
        SectorView view = new SectorView();
        S.due("NODES", view.lookAt(9), -1);
        S.due("PIECES", view.lookAt(10), -1);
        Give.map(view, Edges.least().bytes());
        S.due("none", view.lookAt(9), 0);
        S.due("none", view.lookAt(10), 0);
        Give.map(view, Edges.known());
        S.due("two walls", view.lookAt(9), 2);
        S.due("two walls", view.lookAt(10), 2);
        MapMaker line = Edges.least().vertex(0, 0).vertex(1, 0).vertex(2, 0).vertex(3, 0).plainWall(0, 1, 0, 0, 0, 0)
            .plainWall(1, 2, 0, 0, 0, 0).plainWall(3, 2, 0, 0, 0, 0);
        Give.map(view, line.bytes());
        S.due("three on one line", view.lookAt(9), 1);
        S.due("three on one line", view.lookAt(10), 3);
        Give.map(view, 77);
        S.due("a fault changes nothing", view.lookAt(9), 1);
        S.due("a fault changes nothing", view.lookAt(10), 3);
    }

    private static void movers() {
        SectorView view = new SectorView();
        S.due("without a MAP", view.lookAt(11), 0);
        Corridor corridor = new Corridor().wall(20, 0, 0, 2, 9);
        for (int i = 0; i < 32; i++) {
            corridor.sector(0, 100, 9, 0, i < 31 ? 9 : 8);
        }
        Give.map(view, corridor.map.bytes());
        S.due("none", view.lookAt(11), 0);
        view.stepBy(19, 0, 0, false);
        S.due("none", view.lookAt(11), 0);
        view.stepBy(1, 0, 0, false);
        S.due("31 of 32", view.lookAt(11), 31);
        view.playTo(0);
        S.due("none at START", view.lookAt(11), 0);
    }

    private static void mapsRead() {
        SectorView view = new SectorView();
        S.due("none", view.lookAt(12), 0);
        view.loadMap();
        S.due("a fault is none", view.lookAt(12), 0);
        Give.map(view, Edges.known());
        S.due("one", view.lookAt(12), 1);
        view.loadMap();
        view.loadMap();
        S.due("the same ones count", view.lookAt(12), 3);
        Give.run(view, new RunMaker(0, 0, 0, 0).bytes());
        S.due("a run is none", view.lookAt(12), 3);
        Give.map(view, 1);
        S.due("a fault is none", view.lookAt(12), 3);
        Give.map(view, Edges.least().bytes());
        S.due("another one", view.lookAt(12), 4);
    }

    private static void others() {
        for (int which : new int[] {13, 14, 255, -1, -2, Integer.MIN_VALUE, Integer.MAX_VALUE}) {
            S.due("lookAt(" + which + ")", known().lookAt(which), -1);
            S.due("lookAt(" + which + ") without a MAP", new SectorView().lookAt(which), -1);
        }
        S.due("12 is one", known().lookAt(12), 1);
    }

    private static void none() {
        S.due("NONE", SectorView.NONE, -1);
    }
}
