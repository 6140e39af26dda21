import java.lang.management.ManagementFactory;

/** All calls of a run live in one room: rows are made once and used again, so no number of calls fills it. */
public final class RoomTest {
    private static final Checks CHECKS = new Checks();
    private static final int CALLS = 512;
    private static final com.sun.management.ThreadMXBean THREADS =
        (com.sun.management.ThreadMXBean) ManagementFactory.getThreadMXBean();

    public static void main(String[] args) {
        MapMaker map = RandomMap.of(6, 3276, 10, 4000);
        int[] bytes = map.bytes();
        made();
        long before = made();
        SectorView view = new SectorView();
        long object = made() - before;
        CHECKS.due("a new object takes " + object + " bytes", object < 200_000, true);
        Give.map(view, bytes);
        long first = made() - before;
        CHECKS.due("a map of 128 walls makes it " + first + " bytes", first < 500_000, true);
        loads(view);
        views(view);
        steps(view);
        runs(view);
        CHECKS.end();
    }

    private static long made() {
        return THREADS.getCurrentThreadAllocatedBytes();
    }

    private static void dueLittle(String calls, long before) {
        long more = made() - before;
        CHECKS.due(calls + " made " + more + " bytes", more < 100_000, true);
    }

    private static void loads(SectorView view) {
        view.loadMap();
        long before = made();
        for (int i = 0; i < CALLS; i++) {
            view.loadMap();
            view.saveMap();
            view.turnBytes();
        }
        dueLittle("loadMap, saveMap, turnBytes", before);
    }

    private static void views(SectorView view) {
        long before = made();
        for (int i = 0; i < CALLS; i++) {
            view.frameOf();
            view.pixelAt(i & 63, i % 48);
            view.surfaceAt(i & 63, i % 48);
            view.metAt(i & 63, 0);
            view.leafOf(i, i);
        }
        dueLittle("the views", before);
    }

    private static void steps(SectorView view) {
        long before = made();
        for (int i = 0; i < CALLS; i++) {
            view.stepBy(64, 0, i % 33 - 16, true);
        }
        dueLittle("stepBy", before);
    }

    private static void runs(SectorView view) {
        for (int i = 0; i < 1024; i++) {
            view.addInput(i & 63, 1, 0, true);
        }
        view.saveDemo();
        view.turnBytes();
        view.loadDemo();
        long before = made();
        for (int i = 0; i < CALLS; i++) {
            view.saveDemo();
            view.turnBytes();
            view.loadDemo();
        }
        view.playTo(1024);
        dueLittle("saveDemo, turnBytes, loadDemo, playTo", before);
    }
}
