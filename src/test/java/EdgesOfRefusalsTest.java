import java.util.ArrayList;
import java.util.Arrays;
import java.util.List;
import java.util.function.Consumer;

/** What answers false, NONE or a fault changes nothing: two objects are used alike, and one of them refuses a call in between. */
public final class EdgesOfRefusalsTest {
    private static final Sentences S = new Sentences();
    private static final int LEAST = Integer.MIN_VALUE;

    public static void main(String[] args) {
        S.test("What answers false, NONE or a fault changes nothing but what is said.", EdgesOfRefusalsTest::underWay);
        S.test("What answers false, NONE or a fault changes nothing", EdgesOfRefusalsTest::faults);
        S.test("No MAP, no BYTES, THE RUN is empty; the walker is nowhere.", EdgesOfRefusalsTest::withoutMap);
        S.test("there are 1024", EdgesOfRefusalsTest::fullRun);
        S.end();
    }

    /** A map whose door goes, a run, WRITTEN bytes, other BYTES, and a walker on its way. */
    private static SectorView busy() {
        SectorView view = new Corridor().sector(0, 100, 9, 3, 0).sector(0, 40, 9, 1, 0).wall(50, 0, 1, 1, 0).solid(90, 1).view();
        view.startAt(3, 4, 5, 0);
        view.addInput(7, 8, 9, true);
        view.addInput(7, 8, 9, true);
        view.playTo(1);
        view.stepBy(5, 0, -14, true);
        view.stepBy(5, 0, 0, true);
        view.saveDemo();
        Give.bytes(view, 77, 3, 2, 1);
        view.addInput(1, 0, 0, false);
        return view;
    }

    /** All that can be seen of an object. What THE RUN is can be seen by saving it alone, which is done last. */
    private static List<Long> state(SectorView view, boolean withFault) {
        List<Long> all = new ArrayList<>();
        for (int which = 0; which <= 12; which++) {
            if (withFault || which != 7 && which != 8) {
                all.add((long) view.lookAt(which));
            }
        }
        for (int i = 0; i < 6; i++) {
            all.add((long) view.walkerOf(i));
            all.add((long) view.sectorOf(0, i));
            all.add((long) view.sectorOf(1, i));
            all.add((long) view.nodeOf(0, i));
            all.add((long) view.nodeOf(1, i));
        }
        all.add(view.frameOf());
        addBytes(all, view, true);
        addBytes(all, view, false);
        all.add((long) view.saveMap());
        addBytes(all, view, false);
        all.add((long) view.saveDemo());
        addBytes(all, view, false);
        all.add((long) view.playTo(0));
        all.add((long) view.walkerOf(0));
        return all;
    }

    private static void addBytes(List<Long> all, SectorView view, boolean into) {
        int size = view.lookAt(into ? 5 : 6);
        for (int k = 0; k < size; k++) {
            all.add((long) view.byteOf(k, into));
        }
    }

    private static void dueSame(String call, SectorView used, SectorView untouched, boolean withFault) {
        List<Long> got = state(used, withFault);
        List<Long> want = state(untouched, withFault);
        S.due(call + ": how much there is to see", got.size(), want.size());
        for (int i = 0; i < Math.min(got.size(), want.size()); i++) {
            S.due(call + ": answer " + i + " behind it", got.get(i), want.get(i));
        }
    }

    private static void refused(String call, Consumer<SectorView> calls) {
        SectorView used = busy();
        calls.accept(used);
        dueSame(call, used, busy(), true);
    }

    private static void dueNo(String call, boolean answer) {
        S.due(call, answer, false);
    }

    private static void dueNone(String call, long answer) {
        S.due(call, answer, -1);
    }

    private static void underWay() {
        refused("giveBytes", v -> dueNo("giveBytes(1, 0)", v.giveBytes(1, 0)));
        refused("giveBytes", v -> dueNo("giveBytes(1, 9)", v.giveBytes(1, 9)));
        refused("cutBytes", v -> dueNo("cutBytes(-1)", v.cutBytes(-1)));
        refused("cutBytes", v -> dueNo("cutBytes(5)", v.cutBytes(5)));
        refused("pokeByte", v -> dueNo("pokeByte(-1, 9)", v.pokeByte(-1, 9)));
        refused("pokeByte", v -> dueNo("pokeByte(4, 9)", v.pokeByte(4, 9)));
        int[][] starts = {{-32769, 0, 0, 0}, {32768, 0, 0, 0}, {0, -32769, 0, 0}, {0, 32768, 0, 0}, {0, 0, -1, 0}, {0, 0, 64, 0},
            {0, 0, 0, -1}, {0, 0, 0, 2}};
        for (int[] s : starts) {
            refused("startAt", v -> dueNo("startAt" + Arrays.toString(s), v.startAt(s[0], s[1], s[2], s[3])));
        }
        int[][] inputs = {{65, 0, 0}, {-65, 0, 0}, {0, 65, 0}, {0, -65, 0}, {0, 0, 17}, {0, 0, -17}, {LEAST, LEAST, LEAST}};
        for (int[] i : inputs) {
            refused("addInput", v -> dueNone("addInput" + Arrays.toString(i), v.addInput(i[0], i[1], i[2], true)));
            refused("stepBy", v -> dueNone("stepBy" + Arrays.toString(i), v.stepBy(i[0], i[1], i[2], true)));
        }
        refused("dropInputs", v -> dueNo("dropInputs(-1)", v.dropInputs(-1)));
        refused("dropInputs", v -> dueNo("dropInputs(4)", v.dropInputs(4)));
        refused("playTo", v -> dueNone("playTo(-1)", v.playTo(-1)));
        refused("playTo", v -> dueNone("playTo(4)", v.playTo(4)));
        refused("the askers", EdgesOfRefusalsTest::askWrongly);
    }

    private static void askWrongly(SectorView v) {
        S.due("walkerOf(6)", v.walkerOf(6), 100000);
        S.due("sectorOf(2, 0)", v.sectorOf(2, 0), 100000);
        S.due("sectorOf(0, 5)", v.sectorOf(0, 5), 100000);
        dueNone("pixelAt(64, 0)", v.pixelAt(64, 0));
        dueNone("surfaceAt(0, 48)", v.surfaceAt(0, 48));
        dueNone("metAt(0, -1)", v.metAt(0, -1));
        dueNone("nodeOf(2, 0)", v.nodeOf(2, 0));
        dueNone("leafOf(40000, 0)", v.leafOf(40000, 0));
        dueNone("byteOf(4, true)", v.byteOf(4, true));
        dueNone("lookAt(13)", v.lookAt(13));
    }

    private static void refusedBytes(String what, boolean map, int fault, int[] bytes) {
        SectorView used = busy();
        Give.bytes(used, bytes);
        S.due(what, map ? used.loadMap() : used.loadDemo(), fault);
        SectorView untouched = busy();
        Give.bytes(untouched, bytes);
        dueSame(what, used, untouched, false);
    }

    private static void faults() {
        int[] map = Edges.known();
        refusedBytes("a map's fault 1", true, 1, Arrays.copyOf(map, 75));
        refusedBytes("a map's fault 2", true, 2, Edges.with(map, 2, 2));
        refusedBytes("a map's fault 3, at its end", true, 3, Edges.with(map, 73, 2));
        refusedBytes("a map's fault 4", true, 4, Edges.with(map, 75, 255));
        refusedBytes("a map's fault 5", true, 5, Arrays.copyOf(map, 77));
        refusedBytes("a map's fault 6", true, 6, Edges.poked(55, 1));
        RunMaker maker = new RunMaker(9, 9, 9, 0).raw(5, 70, 1, 71);
        int[] run = maker.bytes();
        refusedBytes("a run's fault 1", false, 1, Arrays.copyOf(run, run.length - 1));
        refusedBytes("a run's fault 2", false, 2, Edges.with(run, 2, 2));
        refusedBytes("a run's fault 3", false, 3, Edges.with(run, 12, 200));
        refusedBytes("a run's fault 4", false, 4, new RunMaker(9, 9, 9, 0).raw(5, 70, 5, 70).bytes());
        RunMaker many = new RunMaker(9, 9, 9, 0);
        for (int i = 0; i < 17; i++) {
            many.raw(63, i % 2);
        }
        refusedBytes("a run's fault 5", false, 5, many.bytes());
        refusedBytes("a run's fault 6", false, 6, Edges.with(run, run.length - 1, 255));
        refusedBytes("a run's fault 7", false, 7, Arrays.copyOf(run, run.length + 1));
        refusedBytes("a run's fault 8", false, 8, new RunMaker(9, 9, 9, 2).raw(5, 70).bytes());
    }

    private static SectorView withBytesAlone() {
        SectorView view = new SectorView();
        view.giveBytes(0x4D480102, 4);
        return view;
    }

    private static void withoutMap() {
        SectorView used = withBytesAlone();
        dueNone("saveMap()", used.saveMap());
        dueNone("saveDemo()", used.saveDemo());
        dueNo("startAt", used.startAt(0, 0, 0, 0));
        dueNone("addInput", used.addInput(0, 0, 0, false));
        dueNo("dropInputs(1)", used.dropInputs(1));
        dueNone("playTo(0)", used.playTo(0));
        dueNone("stepBy", used.stepBy(0, 0, 0, false));
        S.due("walkerOf(0)", used.walkerOf(0), 100000);
        S.due("sectorOf(0, 0)", used.sectorOf(0, 0), 100000);
        dueNone("pixelAt(0, 0)", used.pixelAt(0, 0));
        dueNone("surfaceAt(0, 0)", used.surfaceAt(0, 0));
        dueNone("metAt(0, 0)", used.metAt(0, 0));
        S.due("frameOf()", used.frameOf(), 0);
        dueNone("nodeOf(0, 0)", used.nodeOf(0, 0));
        dueNone("leafOf(0, 0)", used.leafOf(0, 0));
        dueSame("all of these", used, withBytesAlone(), true);
        SectorView loaded = withBytesAlone();
        S.due("loadMap()", loaded.loadMap(), 1);
        S.due("loadDemo()", loaded.loadDemo(), 2);
        dueSame("loading", loaded, withBytesAlone(), false);
    }

    private static SectorView full() {
        SectorView view = busy();
        RunMaker run = new RunMaker(1, 2, 3, 1);
        for (int i = 0; i < 16; i++) {
            run.raw(63, 64 + i % 2);
        }
        Give.run(view, run.raw(16, 70).bytes());
        return view;
    }

    private static void fullRun() {
        SectorView used = full();
        dueNone("addInput(0, 0, 0, false)", used.addInput(0, 0, 0, false));
        dueNone("addInput(6, 0, 0, false)", used.addInput(6, 0, 0, false));
        dueSame("addInput", used, full(), true);
    }
}
