import java.util.ArrayList;
import java.util.List;

/** Puts a map together and tells its bytes; numbers that can not be there are written as they are. */
final class MapMaker {
    static final int NO = 255;

    final List<int[]> vertices = new ArrayList<>();
    final List<int[]> textures = new ArrayList<>();
    final List<int[]> sectors = new ArrayList<>();
    final List<int[]> walls = new ArrayList<>();
    int[] start = {0, 0, 0, 0};

    MapMaker vertex(int x, int y) {
        vertices.add(new int[] {x, y});
        return this;
    }

    /** The powers of two of W and H, then the texels. */
    MapMaker texture(int wide, int high, int... texels) {
        int[] all = new int[2 + texels.length];
        all[0] = wide;
        all[1] = high;
        System.arraycopy(texels, 0, all, 2, texels.length);
        textures.add(all);
        return this;
    }

    /** Floor, ceiling, the floor's texture, the ceiling's, light, kind, tag. */
    MapMaker sector(int... seven) {
        sectors.add(seven);
        return this;
    }

    /** Both vertices, front, back, six textures, across * 16 + down, pegs, kind, tag. */
    MapMaker wall(int... fourteen) {
        walls.add(fourteen);
        return this;
    }

    /** A wall without textures, offsets and pegs. */
    MapMaker plainWall(int a, int b, int front, int back, int kind, int tag) {
        return wall(a, b, front, back, NO, NO, NO, NO, NO, NO, 0, 0, kind, tag);
    }

    MapMaker start(int x, int y, int angle, int sector) {
        start = new int[] {x, y, angle, sector};
        return this;
    }

    int texturePlace(int i) {
        int at = 7 + 4 * vertices.size();
        for (int k = 0; k < i; k++) {
            at += textures.get(k).length;
        }
        return at;
    }

    int sectorPlace(int i) {
        return texturePlace(textures.size()) + 9 * i;
    }

    int wallPlace(int i) {
        return sectorPlace(sectors.size()) + 14 * i;
    }

    int startPlace() {
        return wallPlace(walls.size());
    }

    int checkPlace() {
        return startPlace() + 6;
    }

    int[] bytes() {
        List<Integer> out = new ArrayList<>();
        addAll(out, 77, 72, 1, vertices.size(), textures.size(), sectors.size(), walls.size());
        for (int[] v : vertices) {
            addPair(out, v[0]);
            addPair(out, v[1]);
        }
        for (int[] t : textures) {
            addAll(out, t);
        }
        for (int[] s : sectors) {
            addPair(out, s[0]);
            addPair(out, s[1]);
            addAll(out, s[2], s[3], s[4], s[5], s[6]);
        }
        for (int[] w : walls) {
            addAll(out, w);
        }
        addPair(out, start[0]);
        addPair(out, start[1]);
        addAll(out, start[2], start[3]);
        return checked(toRow(out));
    }

    /** The bytes with a check behind them. */
    static int[] checked(int[] body) {
        int sum = 0;
        int sums = 0;
        for (int b : body) {
            sum += b;
            sums += sum % 251;
        }
        int[] all = java.util.Arrays.copyOf(body, body.length + 2);
        all[body.length] = sum % 251;
        all[body.length + 1] = sums % 251;
        return all;
    }

    /** A map's bytes with one of them changed, and the check made right again. */
    static int[] changed(int[] bytes, int place, int b) {
        int[] body = java.util.Arrays.copyOf(bytes, bytes.length - 2);
        body[place] = b;
        return checked(body);
    }

    static void addAll(List<Integer> out, int... bytes) {
        for (int b : bytes) {
            out.add(b & 255);
        }
    }

    static void addPair(List<Integer> out, int v) {
        addAll(out, v >> 8, v);
    }

    static int[] toRow(List<Integer> list) {
        return list.stream().mapToInt(Integer::intValue).toArray();
    }
}
