import java.util.Random;

/**
 * Promises 1 to 24 in any order: runs of up to 512 calls, whole maps and runs and spoilt ones among them, each answer held against
 * the document's words done slowly.
 */
public final class AnyCallsTest {
    private static final Checks CHECKS = new Checks();
    private static final int CALLS = 512;
    private static final int[] ODD_BYTES = {0, 1, 2, 3, 4, 5, 6, 15, 16, 17, 31, 32, 33, 63, 64, 65, 126, 127, 128, 129, 130, 191, 192,
        193, 254, 255};
    private static final int[] ODD_NUMBERS = {0, 1, -1, 2, 4, 5, 6, 8, 9, 12, 13, 16, 17, -16, -17, 24, 47, 48, 63, 64, 65, -64, -65, 1023,
        1024, 1025, 8192, 32767, 32768, -32768, -32769, Integer.MAX_VALUE, Integer.MIN_VALUE};

    private final SectorView view = new SectorView();
    private final NaiveObject naive = new NaiveObject();
    private final Random random;
    private final String run;
    private final boolean quiet;
    private MapMaker latest = new MapMaker();
    private int calls;

    private AnyCallsTest(int seed) {
        random = new Random(seed);
        run = "run " + seed + ", call ";
        // With one map and few starts the movers have time to come to their ends.
        quiet = seed % 2 == 0;
    }

    public static void main(String[] args) {
        int from = args.length > 1 ? Integer.parseInt(args[0]) : 0;
        int to = args.length > 1 ? Integer.parseInt(args[1]) : 120;
        for (int seed = from; seed < to && CHECKS.allRight(); seed++) {
            new AnyCallsTest(seed).go();
        }
        CHECKS.end();
    }

    private void go() {
        if (random.nextInt(8) > 0) {
            map();
        }
        // The longest of what follows is a map or a run that is given and read.
        while (calls < CALLS - 150 && CHECKS.allRight()) {
            something();
        }
        while (calls < CALLS && CHECKS.allRight()) {
            ask();
        }
    }

    private void due(String call, long got, long want) {
        calls++;
        CHECKS.due(run + calls + ": " + call, got, want);
    }

    private void due(String call, boolean got, boolean want) {
        due(call, got ? 1 : 0, want ? 1 : 0);
    }

    private int odd() {
        return ODD_NUMBERS[random.nextInt(ODD_NUMBERS.length)];
    }

    /** A number from least to most, now and then any other one. */
    private int number(int least, int most) {
        return random.nextInt(12) == 0 ? odd() : least + random.nextInt(most - least + 1);
    }

    private void something() {
        int k = quiet && random.nextInt(20) > 0 ? 20 + random.nextInt(80) : random.nextInt(100);
        if (k < 3) {
            map();
        } else if (k < 7) {
            demo();
        } else if (k < 13) {
            spoil();
        } else if (k < 16) {
            save();
        } else if (k < 20) {
            startAt(near(0), near(1), number(0, 63), number(0, 5));
        } else if (k < 30) {
            inputs();
        } else if (k < 60) {
            step();
        } else {
            ask();
        }
    }

    // -- bytes

    private void give(int[] bytes) {
        cut(0);
        for (int i = 0; i < bytes.length;) {
            int n = Math.min(random.nextInt(10) == 0 ? 1 + random.nextInt(8) : 8, bytes.length - i);
            // What lies above the n bytes is no byte of theirs.
            long v = random.nextInt();
            for (int k = 0; k < n; k++) {
                v = v << 8 | bytes[i + k];
            }
            due("giveBytes(" + v + ", " + n + ")", view.giveBytes(v, n), naive.giveBytes(v, n));
            i += n;
        }
    }

    private void cut(int n) {
        due("cutBytes(" + n + ")", view.cutBytes(n), naive.cutBytes(n));
    }

    private void poke(int k, int b) {
        due("pokeByte(" + k + ", " + b + ")", view.pokeByte(k, b), naive.pokeByte(k, b));
    }

    private void turn() {
        calls++;
        view.turnBytes();
        naive.turnBytes();
    }

    /** A place near the latest map's START, on one of its axes. */
    private int near(int axis) {
        return number(latest.start[axis] - 60, latest.start[axis] + 60);
    }

    private void map() {
        latest = RoomMap.of(random);
        give(latest.bytes());
        loadMap();
    }

    private void loadMap() {
        due("loadMap()", view.loadMap(), naive.loadMap());
        look(7);
        look(8);
        look(12);
    }

    private void loadDemo() {
        due("loadDemo()", view.loadDemo(), naive.loadDemo());
        look(7);
        look(8);
        look(4);
    }

    private void load(boolean demo) {
        if (demo) {
            loadDemo();
        } else {
            loadMap();
        }
    }

    private void demo() {
        RunMaker demo = new RunMaker(near(0), near(1), random.nextInt(64), random.nextInt(4));
        int groups = random.nextInt(20);
        boolean full = random.nextInt(4) == 0;
        int ahead = 0;
        for (int i = 0; i < groups; i++) {
            int times = full ? 63 : 1 + random.nextInt(5);
            // Now and then the same input again, which is right behind 63 of them alone.
            ahead = random.nextInt(20) == 0 ? ahead : random.nextInt(129) - 64;
            if (random.nextInt(3) == 0) {
                demo.group(times, ahead, random.nextInt(129) - 64, random.nextInt(33) - 16, random.nextBoolean());
            } else {
                demo.group(times, ahead, 0, 0, random.nextInt(4) == 0);
            }
        }
        give(demo.bytes());
        loadDemo();
    }

    private void save() {
        if (random.nextBoolean()) {
            due("saveMap()", view.saveMap(), naive.saveMap());
        } else {
            due("saveDemo()", view.saveDemo(), naive.saveDemo());
        }
        look(6);
        if (random.nextBoolean()) {
            turn();
            load(random.nextBoolean());
        }
    }

    /** Other bytes at some places; often with the check that is right for them, so that later faults are come to. */
    private void spoil() {
        int[] bytes = naive.bytes();
        int pokes = random.nextInt(3);
        for (int i = 0; i < pokes; i++) {
            int k = bytes.length == 0 ? 0 : random.nextInt(3) == 0 ? random.nextInt(Math.min(12, bytes.length)) : random.nextInt(bytes.length);
            poke(k, random.nextInt(4) == 0 ? random.nextInt() : ODD_BYTES[random.nextInt(ODD_BYTES.length)]);
        }
        if (random.nextInt(6) == 0) {
            cut(random.nextInt(bytes.length + 2));
        }
        bytes = naive.bytes();
        boolean demo = bytes.length > 1 && bytes[1] == 68;
        if (random.nextInt(3) > 0) {
            mend(bytes, demo ? 4 : 2);
        }
        if (random.nextInt(6) == 0) {
            int n = random.nextInt(4);
            due("giveBytes(0, " + n + ")", view.giveBytes(0, n), naive.giveBytes(0, n));
        }
        load(demo != (random.nextInt(10) == 0));
    }

    private void mend(int[] bytes, int length) {
        if (bytes.length <= length) {
            return;
        }
        int[] body = java.util.Arrays.copyOf(bytes, bytes.length - length);
        int[] whole = length == 4 ? RunMaker.checked(body) : MapMaker.checked(body);
        for (int i = body.length; i < whole.length; i++) {
            poke(i, whole[i]);
        }
    }

    // -- runs and steps

    private void startAt(int x, int y, int angle, int sector) {
        due("startAt(" + x + ", " + y + ", " + angle + ", " + sector + ")", view.startAt(x, y, angle, sector),
            naive.startAt(x, y, angle, sector));
    }

    private void inputs() {
        int k = random.nextInt(8);
        if (k == 0) {
            int n = number(0, 5);
            due("dropInputs(" + n + ")", view.dropInputs(n), naive.dropInputs(n));
        } else if (k == 1) {
            int n = Math.min(number(0, 20), 1025);
            due("playTo(" + n + ")", view.playTo(n), naive.playTo(n));
            state();
        } else {
            addInputs();
        }
    }

    private void addInputs() {
        int ahead = number(-64, 64);
        int aside = random.nextInt(3) == 0 ? number(-64, 64) : 0;
        int turn = random.nextInt(3) == 0 ? number(-16, 16) : 0;
        boolean uses = random.nextBoolean();
        for (int i = random.nextInt(3); i >= 0; i--) {
            due("addInput(" + ahead + ", " + aside + ", " + turn + ", " + uses + ")", view.addInput(ahead, aside, turn, uses),
                naive.addInput(ahead, aside, turn, uses));
        }
    }

    private void step() {
        int ahead = number(-20, 64);
        int aside = random.nextInt(4) == 0 ? number(-64, 64) : 0;
        int turn = random.nextBoolean() ? number(-16, 16) : 0;
        boolean uses = random.nextInt(3) > 0;
        for (int i = random.nextInt(6); i >= 0; i--) {
            due("stepBy(" + ahead + ", " + aside + ", " + turn + ", " + uses + ")", view.stepBy(ahead, aside, turn, uses),
                naive.stepBy(ahead, aside, turn, uses));
        }
        state();
    }

    // -- answers

    private void look(int which) {
        due("lookAt(" + which + ")", view.lookAt(which), naive.lookAt(which));
    }

    private void walker(int what) {
        due("walkerOf(" + what + ")", view.walkerOf(what), naive.walkerOf(what));
    }

    private void sector(int sector, int what) {
        due("sectorOf(" + sector + ", " + what + ")", view.sectorOf(sector, what), naive.sectorOf(sector, what));
    }

    private void state() {
        walker(random.nextInt(6));
        look(11);
        sector(random.nextInt(6), random.nextInt(5));
    }

    private void ask() {
        int a = number(0, 63);
        int b = number(0, 47);
        switch (random.nextInt(12)) {
            case 0: walker(number(0, 6)); break;
            case 1: case 2: sector(number(0, 5), number(0, 5)); break;
            case 3: due("pixelAt(" + a + ", " + b + ")", view.pixelAt(a, b), naive.pixelAt(a, b)); break;
            case 4: due("surfaceAt(" + a + ", " + b + ")", view.surfaceAt(a, b), naive.surfaceAt(a, b)); break;
            case 5: due("metAt(" + a + ", " + b % 5 + ")", view.metAt(a, b % 5), naive.metAt(a, b % 5)); break;
            case 6: due("frameOf()", view.frameOf(), naive.frameOf()); break;
            case 7: due("nodeOf(" + a + ", " + b % 7 + ")", view.nodeOf(a, b % 7), naive.nodeOf(a, b % 7)); break;
            case 8: leaf(near(0), near(1)); break;
            case 9: byteOf(number(0, 600), random.nextBoolean()); break;
            default: look(number(0, 13)); break;
        }
    }

    private void leaf(int x, int y) {
        due("leafOf(" + x + ", " + y + ")", view.leafOf(x, y), naive.leafOf(x, y));
    }

    private void byteOf(int k, boolean into) {
        due("byteOf(" + k + ", " + into + ")", view.byteOf(k, into), naive.byteOf(k, into));
    }
}
