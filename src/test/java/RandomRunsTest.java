import java.util.Random;

/** Promises 13 to 22 on many maps, each answer held against the document's words done slowly. */
public final class RandomRunsTest {
    private static final Checks CHECKS = new Checks();

    public static void main(String[] args) {
        int[][] shapes = {{4, 16, 30}, {6, 40, 60}, {3, 100, 20}, {40, 10, 200}, {16, 2048, 400}, {3276, 10, 2000},
            {1, 32768, 12}, {32767, 1, 300}, {5, 20, 2000}};
        for (int seed = 0; seed < 108; seed++) {
            int[] shape = shapes[seed % shapes.length];
            MapMaker map = RandomMap.of(seed, shape[0], shape[1], shape[2]);
            if (shape[2] < 1000 || seed < 32) {
                tree(seed, map);
            }
            walk(seed, map, shape[0] * shape[1]);
            view(seed, map, shape[0] * shape[1]);
            if (shape[0] * shape[1] > 30000) {
                outside(seed, map);
            }
        }
        CHECKS.end();
    }

    private static void tree(int seed, MapMaker map) {
        SectorView view = Give.withMap(map);
        NaiveTree tree = new NaiveTree(map);
        String run = "map " + seed + ": ";
        CHECKS.due(run + "lookAt(9)", view.lookAt(9), tree.nodes.size());
        CHECKS.due(run + "lookAt(10)", view.lookAt(10), tree.pieces);
        for (int k = 0; k < tree.nodes.size(); k++) {
            for (int what = 0; what < 6; what++) {
                int want = tree.nodes.get(k)[what];
                CHECKS.due(run + "nodeOf(" + k + ", " + what + ")", view.nodeOf(k, what), Math.max(want, -1));
            }
        }
        Random random = new Random(seed);
        for (int i = 0; i < 30; i++) {
            int[] v = map.vertices.get(random.nextInt(map.vertices.size()));
            int x = Math.max(-32768, Math.min(32767, v[0] + random.nextInt(9) - 4));
            int y = Math.max(-32768, Math.min(32767, v[1] + random.nextInt(9) - 4));
            CHECKS.due(run + "leafOf(" + x + ", " + y + ")", view.leafOf(x, y), tree.leaf(x, y));
        }
    }

    private static void walk(int seed, MapMaker map, int half) {
        SectorView view = Give.withMap(map);
        Naive naive = new Naive(map);
        Random random = new Random(seed);
        for (int start = 0; start < 6; start++) {
            int[] v = map.vertices.get(random.nextInt(map.vertices.size()));
            int x = Math.max(-32768, Math.min(32767, v[0] + random.nextInt(161) - 80));
            int y = Math.max(-32768, Math.min(32767, v[1] + random.nextInt(161) - 80));
            int angle = random.nextInt(64);
            int sector = random.nextInt(map.sectors.size());
            CHECKS.due("startAt", view.startAt(x, y, angle, sector), true);
            naive.begin(x, y, angle, sector);
            for (int i = 0; i < 60; i++) {
                String call = "map " + seed + ", start " + start + ", step " + i + ": ";
                int ahead = random.nextInt(129) - 64;
                int aside = random.nextInt(3) == 0 ? random.nextInt(129) - 64 : 0;
                int turn = random.nextInt(33) - 16;
                boolean uses = random.nextInt(3) > 0;
                CHECKS.due(call + "stepBy", view.stepBy(ahead, aside, turn, uses), naive.step(ahead, aside, turn, uses));
                dueState(call, view, naive);
            }
        }
    }

    private static void dueState(String call, SectorView view, Naive naive) {
        int[] walker = {naive.x, naive.y, naive.angle, naive.sector, naive.eye(), naive.ticks};
        for (int what = 0; what < 6; what++) {
            CHECKS.due(call + "walkerOf(" + what + ")", view.walkerOf(what), walker[what]);
        }
        for (int s = 0; s < naive.floors.length; s++) {
            int[] sector = {naive.floors[s], naive.ceilings[s], naive.light(s), naive.moverOf(s), naive.wayOf(s)};
            for (int what = 0; what < 5; what++) {
                CHECKS.due(call + "sectorOf(" + s + ", " + what + ")", view.sectorOf(s, what), sector[what]);
            }
        }
        CHECKS.due(call + "lookAt(11)", view.lookAt(11), naive.moverCount());
    }

    private static void view(int seed, MapMaker map, int half) {
        SectorView view = Give.withMap(map);
        Naive naive = new Naive(map);
        Random random = new Random(seed);
        for (int i = 0; i < 3; i++) {
            int x = Math.max(-32768, Math.min(32767, random.nextInt(2 * half + 1) - half));
            int y = Math.max(-32768, Math.min(32767, random.nextInt(2 * half + 1) - half));
            int angle = random.nextInt(64);
            int sector = random.nextInt(map.sectors.size());
            view.startAt(x, y, angle, sector);
            naive.begin(x, y, angle, sector);
            for (int k = 0; k < 5 * i; k++) {
                view.stepBy(40, 0, 3, true);
                naive.step(40, 0, 3, true);
            }
            dueFrame("map " + seed + ", look " + i + ": ", view, naive);
        }
    }

    // From as far away as the walker can go, where the quotients are the greatest.
    private static void outside(int seed, MapMaker map) {
        SectorView view = Give.withMap(map);
        Naive naive = new Naive(map);
        int x = seed % 16 < 8 ? -32768 : 32767;
        int y = seed % 32 < 16 ? -32768 : 32767;
        int angle = (x < 0 ? y < 0 ? 40 : 24 : y < 0 ? 56 : 8);
        int sector = seed % map.sectors.size();
        view.startAt(x, y, angle, sector);
        naive.begin(x, y, angle, sector);
        for (int i = 0; i < 160; i++) {
            String call = "map " + seed + ", out " + i + ": ";
            CHECKS.due(call + "stepBy", view.stepBy(64, 0, 0, false), naive.step(64, 0, 0, false));
        }
        dueState("map " + seed + ", out: ", view, naive);
        for (int turn : new int[] {16, 14, 2}) {
            view.stepBy(0, 0, turn, false);
            naive.step(0, 0, turn, false);
            dueFrame("map " + seed + ", from outside: ", view, naive);
        }
    }

    private static void dueFrame(String call, SectorView view, Naive naive) {
        int[] frame = new int[64 * 48];
        for (int c = 0; c < 64; c++) {
            naive.look(c);
            for (int row = 0; row < 48; row++) {
                frame[64 * row + c] = naive.pixels[row];
                CHECKS.due(call + "pixelAt(" + c + ", " + row + ")", view.pixelAt(c, row), naive.pixels[row]);
                CHECKS.due(call + "surfaceAt(" + c + ", " + row + ")", view.surfaceAt(c, row), naive.surfaces[row]);
            }
            for (int i = 0; i <= naive.met.size(); i++) {
                int want = i < naive.met.size() ? naive.met.get(i) : -1;
                CHECKS.due(call + "metAt(" + c + ", " + i + ")", view.metAt(c, i), want);
            }
        }
        long sum = 0;
        for (int pixel : frame) {
            sum = 31 * sum + pixel;
        }
        CHECKS.due(call + "frameOf()", view.frameOf(), sum);
    }
}
