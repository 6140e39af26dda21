import java.util.Random;

/** Maps of walls that do not cross, told apart by a seed. */
final class RandomMap {
    private final Random random;
    private final MapMaker map = new MapMaker();

    private RandomMap(long seed) {
        random = new Random(seed);
    }

    /** Places are step * (-half .. half); a small half gives many walls on one line. */
    static MapMaker of(long seed, int half, int step, int walls) {
        return new RandomMap(seed).make(half, step, walls);
    }

    private int upTo(int most) {
        return random.nextInt(most + 1);
    }

    private MapMaker make(int half, int step, int wallTries) {
        int textures = 1 + upTo(4);
        for (int i = 0; i < textures; i++) {
            int wide = upTo(4);
            int high = upTo(4);
            map.texture(wide, high, random.ints(1L << wide + high, 0, 16).toArray());
        }
        int sectors = 1 + upTo(7);
        for (int i = 0; i < sectors; i++) {
            int floor = random.nextInt(4) == 0 ? upTo(2000) - 1024 : 12 * upTo(5) - 30;
            int ceiling = random.nextInt(4) == 0 ? 1024 - upTo(1023 - floor) : Math.min(1024, floor + 1 + upTo(200));
            map.sector(floor, ceiling, upTo(textures - 1), random.nextInt(4) == 0 ? 255 : upTo(textures - 1),
                upTo(15), upTo(3), upTo(3));
        }
        for (int i = 0; i < 128 && map.vertices.size() < 128; i++) {
            addVertex(step * (upTo(2 * half) - half), step * (upTo(2 * half) - half));
        }
        for (int i = 0; i < wallTries && map.walls.size() < 128; i++) {
            addWall(textures, sectors);
        }
        return map.start(step * (upTo(2 * half) - half), step * (upTo(2 * half) - half), upTo(63), upTo(sectors - 1));
    }

    private void addVertex(int wishX, int wishY) {
        int x = Math.min(32767, wishX);
        int y = Math.min(32767, wishY);
        if (map.vertices.stream().noneMatch(v -> v[0] == x && v[1] == y)) {
            map.vertex(x, y);
        }
    }

    private void addWall(int textures, int sectors) {
        int a = upTo(map.vertices.size() - 1);
        int b = upTo(map.vertices.size() - 1);
        if (a == b || overlapsOne(a, b)) {
            return;
        }
        int back = random.nextInt(4) == 0 ? 255 : upTo(sectors - 1);
        int[] w = new int[14];
        w[0] = a;
        w[1] = b;
        w[2] = upTo(sectors - 1);
        w[3] = back;
        for (int i = 4; i < 10; i++) {
            w[i] = i >= 7 && back == 255 || random.nextInt(6) == 0 ? 255 : upTo(textures - 1);
        }
        w[10] = upTo(255);
        w[11] = upTo(3);
        w[12] = upTo(5);
        w[13] = upTo(3);
        map.wall(w);
    }

    private boolean overlapsOne(int a, int b) {
        for (int[] w : map.walls) {
            if (overlap(map.vertices.get(a), map.vertices.get(b), map.vertices.get(w[0]), map.vertices.get(w[1]))) {
                return true;
            }
        }
        return false;
    }

    /** Whether p-q and r-s have a place in common that is no end of both. */
    static boolean overlap(int[] p, int[] q, int[] r, int[] s) {
        Ratio d = cross(q, p, s, r);
        if (d.sign() != 0) {
            Ratio t = cross(r, p, s, r).by(d);
            Ratio u = cross(r, p, q, p).by(d);
            boolean both = within(t) && within(u);
            return both && !(isEnd(t) && isEnd(u));
        }
        if (cross(q, p, r, p).sign() != 0) {
            return false;
        }
        int axis = p[0] != q[0] ? 0 : 1;
        int from = Math.max(Math.min(p[axis], q[axis]), Math.min(r[axis], s[axis]));
        int to = Math.min(Math.max(p[axis], q[axis]), Math.max(r[axis], s[axis]));
        return from < to;
    }

    private static Ratio cross(int[] a, int[] from, int[] b, int[] fromB) {
        return Ratio.of((long) (a[0] - from[0]) * (b[1] - fromB[1])).minus(
            Ratio.of((long) (a[1] - from[1]) * (b[0] - fromB[0])));
    }

    private static boolean within(Ratio t) {
        return t.sign() >= 0 && t.compareTo(Ratio.ONE) <= 0;
    }

    private static boolean isEnd(Ratio t) {
        return t.sign() == 0 || t.compareTo(Ratio.ONE) == 0;
    }
}
