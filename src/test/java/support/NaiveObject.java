import java.util.ArrayList;
import java.util.Arrays;
import java.util.List;

/** All calls once more, by the document's words and as slow as they come, to be held against the program. */
final class NaiveObject {
    private static final int NONE = -1;
    private static final int NO_ANSWER = 100000;

    private List<Integer> bytes = new ArrayList<>();
    private List<Integer> written = new ArrayList<>();
    private List<int[]> run = new ArrayList<>();
    private MapMaker map;
    private NaiveTree tree;
    private Naive world;
    private int[] start;
    private int fault;
    private int place = NONE;
    private int mapsRead;

    int[] bytes() {
        return MapMaker.toRow(bytes);
    }

    boolean giveBytes(long v, int n) {
        if (n < 1 || n > 8 || bytes.size() + n > 8192) {
            return false;
        }
        for (int i = n; i > 0; i--) {
            bytes.add((int) (v >> 8 * (i - 1) & 255));
        }
        return true;
    }

    boolean cutBytes(int n) {
        if (n < 0 || n > bytes.size()) {
            return false;
        }
        bytes = new ArrayList<>(bytes.subList(0, n));
        return true;
    }

    boolean pokeByte(int k, int b) {
        if (k < 0 || k >= bytes.size()) {
            return false;
        }
        bytes.set(k, Math.floorMod(b, 256));
        return true;
    }

    // -- maps and runs

    private int keepFault(int number, int at) {
        fault = number;
        place = at;
        return number;
    }

    int loadMap() {
        try {
            map = new NaiveReader(bytes()).map();
        } catch (NaiveReader.Fault seen) {
            return keepFault(seen.number, seen.place);
        }
        mapsRead++;
        tree = new NaiveTree(map);
        world = new Naive(map);
        start = map.start;
        run = new ArrayList<>();
        return keepFault(0, NONE);
    }

    int loadDemo() {
        try {
            NaiveReader.Run read = new NaiveReader(bytes()).run(map);
            run = read.inputs();
            start = read.start();
        } catch (NaiveReader.Fault seen) {
            return keepFault(seen.number, seen.place);
        }
        begin();
        return keepFault(0, NONE);
    }

    private void begin() {
        world.begin(start[0], start[1], start[2], start[3]);
    }

    private int write(int[] row) {
        written = new ArrayList<>();
        MapMaker.addAll(written, row);
        return row.length;
    }

    int saveMap() {
        return map == null ? NONE : write(map.bytes());
    }

    int saveDemo() {
        if (map == null) {
            return NONE;
        }
        RunMaker out = new RunMaker(start[0], start[1], start[2], start[3]);
        int from = 0;
        while (from < run.size()) {
            int[] input = run.get(from);
            int to = from;
            while (to < run.size() && to < from + 63 && Arrays.equals(run.get(to), input)) {
                to++;
            }
            out.group(to - from, input[0], input[1], input[2], input[3] == 1);
            from = to;
        }
        return write(out.bytes());
    }

    void turnBytes() {
        bytes = new ArrayList<>(written);
    }

    // -- runs and steps

    private static boolean within(int v, int least, int most) {
        return least <= v && v <= most;
    }

    private static boolean isInput(int ahead, int aside, int turn) {
        return within(ahead, -64, 64) && within(aside, -64, 64) && within(turn, -16, 16);
    }

    private static boolean isPlace(int x, int y) {
        return within(x, -32768, 32767) && within(y, -32768, 32767);
    }

    private boolean isSector(int sector) {
        return map != null && within(sector, 0, map.sectors.size() - 1);
    }

    boolean startAt(int x, int y, int angle, int sector) {
        if (!isSector(sector) || !isPlace(x, y) || !within(angle, 0, 63)) {
            return false;
        }
        start = new int[] {x, y, angle, sector};
        begin();
        return true;
    }

    int addInput(int ahead, int aside, int turn, boolean uses) {
        if (map == null || !isInput(ahead, aside, turn) || run.size() == 1024) {
            return NONE;
        }
        run.add(new int[] {ahead, aside, turn, uses ? 1 : 0});
        return run.size();
    }

    boolean dropInputs(int n) {
        if (!within(n, 0, run.size())) {
            return false;
        }
        run = new ArrayList<>(run.subList(0, run.size() - n));
        return true;
    }

    int playTo(int k) {
        if (map == null || !within(k, 0, run.size())) {
            return NONE;
        }
        begin();
        int stopped = 0;
        for (int[] input : run.subList(0, k)) {
            stopped += world.step(input[0], input[1], input[2], input[3] == 1) == 2 ? 1 : 0;
        }
        return stopped;
    }

    int stepBy(int ahead, int aside, int turn, boolean uses) {
        return map == null || !isInput(ahead, aside, turn) ? NONE : world.step(ahead, aside, turn, uses);
    }

    // -- answers

    private static int pick(int k, int otherwise, int... answers) {
        return within(k, 0, answers.length - 1) ? answers[k] : otherwise;
    }

    int walkerOf(int what) {
        return map == null ? NO_ANSWER
            : pick(what, NO_ANSWER, world.x, world.y, world.angle, world.sector, world.eye(), world.ticks);
    }

    int sectorOf(int sector, int what) {
        return !isSector(sector) ? NO_ANSWER : pick(what, NO_ANSWER, world.floors[sector], world.ceilings[sector],
            world.light(sector), world.moverOf(sector), world.wayOf(sector));
    }

    private boolean looks(int column) {
        if (map == null || !within(column, 0, 63)) {
            return false;
        }
        world.look(column);
        return true;
    }

    int pixelAt(int column, int row) {
        return looks(column) ? pick(row, NONE, world.pixels) : NONE;
    }

    int surfaceAt(int column, int row) {
        return looks(column) ? pick(row, NONE, world.surfaces) : NONE;
    }

    int metAt(int column, int i) {
        return looks(column) ? pick(i, NONE, MapMaker.toRow(world.met)) : NONE;
    }

    long frameOf() {
        int[][] columns = new int[64][];
        for (int c = 0; c < 64; c++) {
            columns[c] = looks(c) ? world.pixels.clone() : new int[48];
        }
        long sum = 0;
        for (int row = 0; row < 48; row++) {
            for (int c = 0; c < 64; c++) {
                sum = 31 * sum + columns[c][row];
            }
        }
        return sum;
    }

    int nodeOf(int k, int what) {
        return map == null || !within(k, 0, tree.nodes.size() - 1) ? NONE : Math.max(NONE, pick(what, NONE, tree.nodes.get(k)));
    }

    int leafOf(int x, int y) {
        return map == null || !isPlace(x, y) ? NONE : tree.leaf(x, y);
    }

    int byteOf(int k, boolean into) {
        return pick(k, NONE, MapMaker.toRow(into ? bytes : written));
    }

    int lookAt(int which) {
        int[] ofMap = map == null ? new int[] {NONE, NONE, NONE, NONE, NONE, NONE, 0}
            : new int[] {map.vertices.size(), map.textures.size(), map.sectors.size(), map.walls.size(), tree.nodes.size(),
                tree.pieces, world.moverCount()};
        return pick(which, NONE, ofMap[0], ofMap[1], ofMap[2], ofMap[3], run.size(), bytes.size(), written.size(), fault, place,
            ofMap[4], ofMap[5], ofMap[6], mapsRead);
    }
}
