import java.util.Random;

/** No call ever throws or fails to end, and the same calls give the same answers, whatever is asked in whatever state. */
public final class FuzzTest {
    private static final Checks CHECKS = new Checks();
    private static final int[] EDGES = {0, 1, -1, 2, 5, 8, 9, 47, 48, 63, 64, 65, -64, -65, 16, 17, -16, -17, 127, 128, 255, 256,
        1024, 8191, 8192, 32767, 32768, -32768, -32769, 40000, 40001, Integer.MAX_VALUE, Integer.MIN_VALUE};

    public static void main(String[] args) {
        for (int seed = 0; seed < 3000; seed++) {
            CHECKS.due("run " + seed, answers(seed), answers(seed));
        }
        CHECKS.end();
    }

    private static long answers(int seed) {
        Random random = new Random(seed);
        SectorView view = new SectorView();
        long sum = 0;
        for (int i = 0; i < 400; i++) {
            sum = 1000003 * sum + answer(view, random, seed);
        }
        return sum;
    }

    private static int number(Random random) {
        return random.nextBoolean() ? EDGES[random.nextInt(EDGES.length)] : random.nextInt(70);
    }

    private static int small(Random random, int most) {
        return random.nextInt(8) == 0 ? number(random) : random.nextInt(2 * most + 1) - most;
    }

    private static long answer(SectorView view, Random random, int seed) {
        switch (random.nextInt(28)) {
            case 0: return view.giveBytes(random.nextLong(), number(random)) ? 1 : 0;
            case 1: return view.cutBytes(number(random)) ? 1 : 0;
            case 2: return view.pokeByte(number(random), number(random)) ? 1 : 0;
            case 3: return view.loadMap();
            case 4: return view.loadDemo();
            case 5: return view.saveMap();
            case 6: return view.saveDemo();
            case 7: view.turnBytes(); return 0;
            case 8: return view.startAt(number(random), number(random), number(random), number(random)) ? 1 : 0;
            case 9: return view.addInput(small(random, 64), small(random, 64), small(random, 16), random.nextBoolean());
            case 10: return view.dropInputs(number(random)) ? 1 : 0;
            case 11: return view.playTo(number(random));
            case 12: return view.walkerOf(number(random));
            case 13: return view.sectorOf(number(random), number(random));
            case 14: return view.pixelAt(number(random), number(random));
            case 15: return view.surfaceAt(number(random), number(random));
            case 16: return view.metAt(number(random), number(random));
            case 17: return view.frameOf();
            case 18: return view.nodeOf(number(random), number(random));
            case 19: return view.leafOf(number(random), number(random));
            case 20: return view.byteOf(number(random), random.nextBoolean());
            case 21: return view.lookAt(number(random));
            case 22: return Give.map(view, map(random, seed).bytes());
            case 23: return Give.map(view, spoilt(random, map(random, seed).bytes()));
            case 24: return Give.run(view, spoilt(random, new RunMaker(1, 2, 3, 0).group(60, 64, 1, 1, true).bytes()));
            default: return view.stepBy(small(random, 64), small(random, 64), small(random, 16), random.nextBoolean());
        }
    }

    private static MapMaker map(Random random, int seed) {
        return RandomMap.of(random.nextInt(50), 1 + seed % 5, 1 + 7 * (seed % 11), 15);
    }

    /** Some bytes are others; the check is made right again, so that later faults are come to. */
    private static int[] spoilt(Random random, int[] bytes) {
        int[] others = bytes.clone();
        for (int i = random.nextInt(3); i >= 0; i--) {
            others[random.nextInt(others.length)] = random.nextInt(256);
        }
        return random.nextBoolean() ? others : MapMaker.changed(others, random.nextInt(others.length - 2), random.nextInt(256));
    }
}
