import java.util.Random;

/** Small maps of rooms side by side, told apart by a seed: with walls, openings, doors, lifts and floors that a walker comes to. */
final class RoomMap {
    private static final int[] SIZES = {40, 64, 96, 100, 160};

    private final Random random;
    private final MapMaker map = new MapMaker();
    private int wide;
    private int high;
    private int size;
    private int[] rooms;

    private RoomMap(Random random) {
        this.random = random;
    }

    static MapMaker of(Random random) {
        return new RoomMap(random).make();
    }

    private int upTo(int most) {
        return random.nextInt(most + 1);
    }

    private boolean once(int in) {
        return random.nextInt(in) == 0;
    }

    private MapMaker make() {
        wide = 1 + upTo(2);
        high = 1 + upTo(2);
        size = SIZES[upTo(SIZES.length - 1)];
        int left = edge(wide * size);
        int low = edge(high * size);
        addVertices(left, low);
        addTextures();
        addSectors();
        rooms = random.ints((long) wide * high, 0, map.sectors.size()).toArray();
        for (int i = 0; i <= wide; i++) {
            for (int j = 0; j <= high; j++) {
                if (j < high) {
                    addEdge(number(i, j), number(i, j + 1), roomAt(i, j), roomAt(i - 1, j));
                }
                if (i < wide) {
                    addEdge(number(i, j), number(i + 1, j), roomAt(i, j - 1), roomAt(i, j));
                }
            }
        }
        int i = upTo(wide - 1);
        int j = upTo(high - 1);
        return map.start(left + i * size + size / 2, low + j * size + size / 2, upTo(63), roomAt(i, j));
    }

    /** Where the rooms begin: about the middle, or at an end of all places. */
    private int edge(int length) {
        int k = upTo(7);
        return k == 0 ? -32768 + size / 6 : k == 1 ? 32767 - length - size / 6 : upTo(400) - 200 - length / 2;
    }

    private int number(int i, int j) {
        return i * (high + 1) + j;
    }

    private int roomAt(int i, int j) {
        return i < 0 || i >= wide || j < 0 || j >= high ? MapMaker.NO : rooms[i * high + j];
    }

    private void addVertices(int left, int low) {
        int aside = once(3) ? 0 : size / 6;
        for (int i = 0; i <= wide; i++) {
            for (int j = 0; j <= high; j++) {
                map.vertex(left + i * size + upTo(2 * aside) - aside, low + j * size + upTo(2 * aside) - aside);
            }
        }
    }

    private void addTextures() {
        for (int i = upTo(2); i >= 0; i--) {
            int across = upTo(2);
            int down = upTo(2);
            map.texture(across, down, random.ints(1L << across + down, 0, 16).toArray());
        }
    }

    private void addSectors() {
        int textures = map.textures.size();
        for (int i = upTo(5); i >= 0; i--) {
            int floor = once(10) ? upTo(2047) - 1024 : 8 * upTo(3);
            int space = once(6) ? 1 + upTo(60) : 80 + upTo(80);
            map.sector(floor, Math.min(1024, floor + space), upTo(textures - 1), once(4) ? MapMaker.NO : upTo(textures - 1),
                upTo(15), upTo(3), upTo(2));
        }
    }

    private void addEdge(int from, int to, int right, int left) {
        boolean outer = right == MapMaker.NO || left == MapMaker.NO;
        if (once(outer ? 20 : 6)) {
            return;
        }
        boolean turned = right == MapMaker.NO || left != MapMaker.NO && once(2);
        int front = turned ? left : right;
        int back = once(5) ? MapMaker.NO : turned ? right : left;
        int[] w = new int[14];
        w[0] = turned ? to : from;
        w[1] = turned ? from : to;
        w[2] = front;
        w[3] = back;
        for (int i = 4; i < 10; i++) {
            w[i] = i >= 7 && back == MapMaker.NO || once(5) ? MapMaker.NO : upTo(map.textures.size() - 1);
        }
        w[10] = upTo(255);
        w[11] = upTo(3);
        w[12] = once(3) ? 0 : 1 + upTo(4);
        w[13] = upTo(2);
        map.wall(w);
    }
}
