import java.util.ArrayList;
import java.util.Arrays;
import java.util.List;

/** Maps and runs read from bytes once more, by the document's words: the first fault that is seen is thrown. */
final class NaiveReader {
    /** A fault and its place. */
    static final class Fault extends RuntimeException {
        private static final long serialVersionUID = 1;
        final int number;
        final int place;

        Fault(int number, int place) {
            super("fault " + number + " at " + place);
            this.number = number;
            this.place = place;
        }
    }

    /** A run as it was read; an input is its amounts ahead and aside, its turn, and 1 if it uses. */
    record Run(int[] start, List<int[]> inputs) {
    }

    private final int[] bytes;
    private int at;

    NaiveReader(int[] bytes) {
        this.bytes = bytes;
    }

    private static void must(boolean right, int number, int place) {
        if (!right) {
            throw new Fault(number, place);
        }
    }

    private int one() {
        must(at < bytes.length, 1, bytes.length);
        return bytes[at++];
    }

    private int one(int least, int most) {
        int b = one();
        must(least <= b && b <= most, 3, at - 1);
        return b;
    }

    private int oneOrNo(int count) {
        int b = one();
        must(b == MapMaker.NO || b < count, 3, at - 1);
        return b;
    }

    private int two() {
        int v = 256 * one() + one();
        return v < 32768 ? v : v - 65536;
    }

    private int height() {
        int z = two();
        must(-1024 <= z && z <= 1024, 3, at - 2);
        return z;
    }

    private void head(int... due) {
        for (int i = 0; i < due.length; i++) {
            must(one() == due[i], 2, i);
        }
    }

    private void check(int[] due, int number) {
        for (int i = at; i < due.length; i++) {
            must(one() == due[i], number, i);
        }
    }

    private int[] start(int sectors) {
        return new int[] {two(), two(), one(0, 63), one(0, sectors - 1)};
    }

    // -- maps

    MapMaker map() {
        MapMaker map = new MapMaker();
        head(77, 72, 1);
        int vertices = one(0, 128);
        int textures = one(0, 16);
        int sectors = one(1, 32);
        int walls = one(0, 128);
        while (map.vertices.size() < vertices) {
            vertex(map);
        }
        while (map.textures.size() < textures) {
            texture(map);
        }
        while (map.sectors.size() < sectors) {
            sector(map);
        }
        while (map.walls.size() < walls) {
            wall(map);
        }
        map.start = start(sectors);
        check(MapMaker.checked(Arrays.copyOf(bytes, at)), 4);
        must(at == bytes.length, 5, at);
        findOverlap(map);
        return map;
    }

    private void vertex(MapMaker map) {
        int x = two();
        int y = two();
        must(map.vertices.stream().noneMatch(v -> v[0] == x && v[1] == y), 3, at - 2);
        map.vertex(x, y);
    }

    private void texture(MapMaker map) {
        int wide = one(0, 4);
        int high = one(0, 4);
        int[] texels = new int[1 << wide + high];
        for (int i = 0; i < texels.length; i++) {
            texels[i] = one(0, 15);
        }
        map.texture(wide, high, texels);
    }

    private void sector(MapMaker map) {
        int floor = height();
        int ceiling = height();
        must(ceiling > floor, 3, at - 2);
        int textures = map.textures.size();
        map.sector(floor, ceiling, one(0, textures - 1), oneOrNo(textures), one(0, 15), one(0, 3), one());
    }

    private void wall(MapMaker map) {
        int[] w = new int[14];
        w[0] = one(0, map.vertices.size() - 1);
        w[1] = one(0, map.vertices.size() - 1);
        must(w[0] != w[1], 3, at - 1);
        w[2] = one(0, map.sectors.size() - 1);
        w[3] = oneOrNo(map.sectors.size());
        for (int i = 4; i < 10; i++) {
            w[i] = oneOrNo(map.textures.size());
            must(i < 7 || w[3] != MapMaker.NO || w[i] == MapMaker.NO, 3, at - 1);
        }
        w[10] = one();
        w[11] = one(0, 3);
        w[12] = one(0, 5);
        w[13] = one();
        map.wall(w);
    }

    private static void findOverlap(MapMaker map) {
        for (int w = 0; w < map.walls.size(); w++) {
            for (int v = 0; v < w; v++) {
                must(!overlap(map, map.walls.get(w), map.walls.get(v)), 6, map.wallPlace(w));
            }
        }
    }

    private static boolean overlap(MapMaker map, int[] w, int[] v) {
        return RandomMap.overlap(map.vertices.get(w[0]), map.vertices.get(w[1]), map.vertices.get(v[0]), map.vertices.get(v[1]));
    }

    // -- runs

    Run run(MapMaker map) {
        head(77, 68, 1);
        int[] start = start(256);
        List<int[]> inputs = new ArrayList<>();
        int[] ahead = null;
        for (int[] group = group(inputs.size(), ahead); group != null; group = group(inputs.size(), ahead)) {
            for (int i = 0; i < group[4]; i++) {
                inputs.add(Arrays.copyOf(group, 4));
            }
            ahead = group;
        }
        check(RunMaker.checked(Arrays.copyOf(bytes, at)), 6);
        must(at == bytes.length, 7, at);
        must(map != null && start[3] < map.sectors.size(), 8, 8);
        return new Run(start, inputs);
    }

    /** An input and how often it comes; null at the end. */
    private int[] group(int inputs, int[] ahead) {
        int place = at;
        int head = one();
        if (head == 0) {
            return null;
        }
        int times = head % 64;
        must(times != 0, 3, place);
        must(inputs + times <= 1024, 5, place);
        int[] group = {one(0, 128) - 64, 0, 0, head / 64 % 2, times};
        if (head >= 128) {
            group[1] = one(0, 128) - 64;
            group[2] = one(0, 32) - 16;
            must(group[1] != 0 || group[2] != 0, 3, at - 1);
        }
        boolean again = ahead != null && Arrays.equals(Arrays.copyOf(group, 4), Arrays.copyOf(ahead, 4));
        must(!again || ahead[4] == 63, 4, place);
        return group;
    }
}
