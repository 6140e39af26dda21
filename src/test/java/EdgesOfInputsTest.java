/** The boundary sentences of promises 10 to 13: startAt, addInput, dropInputs and playTo. */
public final class EdgesOfInputsTest {
    private static final Sentences S = new Sentences();
    private static final int LEAST = Integer.MIN_VALUE;
    private static final int MOST = Integer.MAX_VALUE;

    public static void main(String[] args) {
        S.test("START, where the walker is then, and all that moves as THE MAP says (TICKS is 0; THE RUN stays): true",
            EdgesOfInputsTest::startsAnew);
        S.test("false if there is no MAP", EdgesOfInputsTest::startWithoutMap);
        S.test("x or y is not -32768 .. 32767", EdgesOfInputsTest::startPlaces);
        S.test("angle not 0 .. 63", EdgesOfInputsTest::startAngles);
        S.test("or there is no such SECTOR", EdgesOfInputsTest::startSectors);
        S.test("One more INPUT of THE RUN (nothing moves): how many there are", EdgesOfInputsTest::adds);
        S.test("NONE if one of these is not as said", EdgesOfInputsTest::wrongInputs);
        S.test("there are 1024", EdgesOfInputsTest::fullRun);
        S.test("or there is no MAP.", EdgesOfInputsTest::addWithoutMap);
        S.test("The last n INPUTS go: true", EdgesOfInputsTest::drops);
        S.test("false if there are fewer, or n is below 0.", EdgesOfInputsTest::wrongDrops);
        S.test("(The walker stays.)", EdgesOfInputsTest::walkerStays);
        S.test("The walker and all that moves are as they are behind the first k INPUTS from START on", EdgesOfInputsTest::plays);
        S.test("how many of these steps went no way though their M was not (0, 0) (2 of stepBy())", EdgesOfInputsTest::countsStopped);
        S.test("NONE without a MAP, or if there is no such k.", EdgesOfInputsTest::wrongPlays);
        S.end();
    }

    private static Corridor corridor() {
        return new Corridor().sector(0, 100, 9, 0, 0).sector(0, 40, 9, 0, 0).wall(50, 0, 1, 1, 0).solid(-60, 0);
    }

    private static SectorView view() {
        return corridor().view();
    }

    private static void startsAnew() {
        SectorView view = view();
        view.addInput(5, 0, 0, false);
        view.stepBy(3, 0, 0, true);
        S.dueSector("a door goes", view, 1, 0, 48, 9, 0, 1);
        S.due("startAt", view.startAt(7, 8, 9, 1), true);
        S.dueWalker("there", view, 7, 8, 9, 1, 41, 0);
        S.dueSector("nothing moves", view, 1, 0, 40, 9, -1, 0);
        S.due("THE RUN stays", view.lookAt(4), 1);
        view.playTo(1);
        S.due("TICKS", view.walkerOf(5), 1);
        S.due("the same once more", view.startAt(7, 8, 9, 1), true);
        S.dueWalker("there", view, 7, 8, 9, 1, 41, 0);
        view.playTo(0);
        S.dueWalker("START", view, 7, 8, 9, 1, 41, 0);
        view.saveDemo();
        S.dueWritten("START and THE RUN", view, new RunMaker(7, 8, 9, 1).group(1, 5, 0, 0, false).bytes());
    }

    private static void startWithoutMap() {
        SectorView view = new SectorView();
        S.due("startAt(0, 0, 0, 0)", view.startAt(0, 0, 0, 0), false);
        Give.map(view, 77, 72, 1);
        S.due("startAt(0, 0, 0, 0) behind a fault", view.startAt(0, 0, 0, 0), false);
        S.due("nowhere", view.walkerOf(0), 100000);
    }

    private static void dueStart(boolean right, int x, int y, int angle, int sector) {
        SectorView view = view();
        view.startAt(1, 2, 3, 0);
        view.stepBy(0, 0, 1, false);
        S.due("startAt(" + x + ", " + y + ", " + angle + ", " + sector + ")", view.startAt(x, y, angle, sector), right);
        if (right) {
            S.dueWalker("there", view, x, y, angle, sector, 41, 0);
        } else {
            S.dueWalker("where it was", view, 1, 2, 4, 0, 41, 1);
            view.playTo(0);
            S.dueWalker("START as it was", view, 1, 2, 3, 0, 41, 0);
        }
    }

    private static void startPlaces() {
        for (int v : new int[] {-32768, -32767, 0, 32766, 32767}) {
            dueStart(true, v, 0, 0, 0);
            dueStart(true, 0, v, 0, 0);
        }
        for (int v : new int[] {-32769, 32768, -40000, 40000, 65536, LEAST, MOST}) {
            dueStart(false, v, 0, 0, 0);
            dueStart(false, 0, v, 0, 0);
        }
    }

    private static void startAngles() {
        dueStart(true, 0, 0, 0, 0);
        dueStart(true, 0, 0, 63, 0);
        for (int angle : new int[] {-1, 64, 128, LEAST, MOST}) {
            dueStart(false, 0, 0, angle, 0);
        }
    }

    private static void startSectors() {
        dueStart(true, 0, 0, 0, 0);
        dueStart(true, 0, 0, 0, 1);
        for (int sector : new int[] {-1, 2, 31, 32, 255, LEAST, MOST}) {
            dueStart(false, 0, 0, 0, sector);
        }
    }

    private static void adds() {
        SectorView view = view();
        view.stepBy(0, 0, 1, false);
        S.due("the first", view.addInput(64, 64, 16, true), 1);
        S.due("the second", view.addInput(-64, -64, -16, false), 2);
        S.due("one of nothing", view.addInput(0, 0, 0, false), 3);
        S.due("lookAt(4)", view.lookAt(4), 3);
        S.dueWalker("nothing moves", view, 0, 0, 1, 0, 41, 1);
        S.due("no door", view.lookAt(11), 0);
    }

    private static void wrongInputs() {
        SectorView view = view();
        view.addInput(1, 0, 0, false);
        for (int v : new int[] {-65, 65, 128, LEAST, MOST}) {
            S.due("addInput(" + v + ", 0, 0)", view.addInput(v, 0, 0, false), -1);
            S.due("addInput(0, " + v + ", 0)", view.addInput(0, v, 0, true), -1);
        }
        for (int v : new int[] {-17, 17, 64, LEAST, MOST}) {
            S.due("addInput(0, 0, " + v + ")", view.addInput(0, 0, v, false), -1);
        }
        S.due("lookAt(4)", view.lookAt(4), 1);
        S.due("the next one", view.addInput(0, 0, 0, false), 2);
    }

    private static SectorView full() {
        SectorView view = view();
        RunMaker run = new RunMaker(0, 0, 0, 0);
        for (int i = 0; i < 16; i++) {
            run.group(63, i % 2, 0, 0, false);
        }
        Give.run(view, run.group(15, 0, 0, 1, false).bytes());
        return view;
    }

    private static void fullRun() {
        SectorView view = full();
        S.due("1023 are there", view.lookAt(4), 1023);
        S.due("the last one", view.addInput(0, 0, 1, false), 1024);
        S.due("one more", view.addInput(0, 0, 1, false), -1);
        S.due("one more", view.addInput(0, 0, 0, false), -1);
        S.due("lookAt(4)", view.lookAt(4), 1024);
        S.due("one goes", view.dropInputs(1), true);
        S.due("one comes", view.addInput(0, 0, 5, false), 1024);
        view.playTo(1024);
        S.due("the turns", view.walkerOf(2), 20);
    }

    private static void addWithoutMap() {
        SectorView view = new SectorView();
        S.due("addInput", view.addInput(0, 0, 0, false), -1);
        S.due("lookAt(4)", view.lookAt(4), 0);
    }

    private static SectorView withTurns(int n) {
        SectorView view = view();
        for (int i = 0; i < n; i++) {
            view.addInput(0, 0, 1 + i, false);
        }
        return view;
    }

    private static void drops() {
        int[] turns = {0, 1, 3, 6, 10};
        for (int n = 0; n <= 4; n++) {
            SectorView view = withTurns(4);
            S.due("dropInputs(" + n + ")", view.dropInputs(n), true);
            S.due("lookAt(4)", view.lookAt(4), 4 - n);
            view.playTo(4 - n);
            S.due("the first ones stay", view.walkerOf(2), turns[4 - n]);
            S.due("no more", view.playTo(5 - n), -1);
            S.due("the next one comes behind them", view.addInput(0, 0, 9, false), 5 - n);
            view.playTo(5 - n);
            S.due("the next one", view.walkerOf(2), turns[4 - n] + 9);
        }
        SectorView view = full();
        S.due("all of 1023", view.dropInputs(1023), true);
        S.due("lookAt(4)", view.lookAt(4), 0);
        S.due("none of none", view.dropInputs(0), true);
    }

    private static void wrongDrops() {
        SectorView view = withTurns(3);
        for (int n : new int[] {4, 1024, MOST, -1, -3, LEAST}) {
            S.due("dropInputs(" + n + ")", view.dropInputs(n), false);
        }
        S.due("lookAt(4)", view.lookAt(4), 3);
        S.due("one of none", withTurns(0).dropInputs(1), false);
        S.due("without a MAP", new SectorView().dropInputs(1), false);
        S.due("none, without a MAP", new SectorView().dropInputs(0), true);
        S.due("below 0, without a MAP", new SectorView().dropInputs(-1), false);
    }

    private static void walkerStays() {
        SectorView view = view();
        view.addInput(30, 0, 2, true);
        view.playTo(1);
        int x = view.walkerOf(0);
        int y = view.walkerOf(1);
        S.due("dropInputs(1)", view.dropInputs(1), true);
        S.dueWalker("where it was", view, x, y, 2, 0, 41, 1);
        S.dueSector("the door goes on", view, 1, 0, 48, 9, 0, 1);
    }

    private static void plays() {
        SectorView view = view();
        view.addInput(10, 0, 0, true);
        view.addInput(-10, 0, 0, false);
        view.addInput(0, 0, -1, false);
        for (int again = 0; again < 2; again++) {
            S.due("playTo(3)", view.playTo(3), 0);
            S.dueWalker("all", view, 0, 0, 63, 0, 41, 3);
            S.dueSector("all", view, 1, 0, 64, 9, 0, 1);
            S.due("playTo(1)", view.playTo(1), 0);
            S.dueWalker("the first", view, 10, 0, 0, 0, 41, 1);
            S.dueSector("the first", view, 1, 0, 48, 9, 0, 1);
            S.due("playTo(0)", view.playTo(0), 0);
            S.dueWalker("START", view, 0, 0, 0, 0, 41, 0);
            S.dueSector("START", view, 1, 0, 40, 9, -1, 0);
            view.stepBy(0, 0, 5, true);
        }
        view.startAt(-20, 3, 32, 0);
        S.due("playTo(2) from another START", view.playTo(2), 0);
        S.dueWalker("from another START", view, -20, 3, 32, 0, 41, 2);
        S.due("no door there", view.lookAt(11), 0);
    }

    private static void countsStopped() {
        SectorView view = view();
        view.addInput(64, 0, 0, false);
        view.addInput(0, 0, 0, false);
        view.addInput(-64, 0, 0, false);
        view.addInput(-60, 0, 0, true);
        view.addInput(-59, 0, 0, false);
        view.addInput(-1, 0, 0, false);
        int[] stopped = {0, 1, 1, 2, 3, 3, 4};
        for (int k = 0; k < stopped.length; k++) {
            S.due("playTo(" + k + ")", view.playTo(k), stopped[k]);
        }
        view.startAt(32767, 100, 0, 0);
        view.dropInputs(6);
        for (int i = 0; i < 114; i++) {
            view.addInput(64, 0, 0, false);
        }
        S.due("up to 39999", view.playTo(113), 0);
        S.due("beyond 40000", view.playTo(114), 1);
    }

    private static void wrongPlays() {
        S.due("without a MAP", new SectorView().playTo(0), -1);
        SectorView view = withTurns(3);
        view.playTo(2);
        for (int k : new int[] {-1, 4, 1024, LEAST, MOST}) {
            S.due("playTo(" + k + ")", view.playTo(k), -1);
        }
        S.dueWalker("where it was", view, 0, 0, 3, 0, 41, 2);
        S.due("playTo(0) of an empty run", withTurns(0).playTo(0), 0);
        S.due("playTo(1) of an empty run", withTurns(0).playTo(1), -1);
    }
}
