import java.util.ArrayList;
import java.util.Comparator;
import java.util.List;

/** The walker, the movers and the view once more, slowly and with exact quotients, to be held against the program. */
final class Naive {
    private static final int[] K = {256, 255, 251, 245, 237, 226, 213, 198, 181, 162, 142, 121, 98, 74, 50, 25, 0};

    /** A wall that a ray meets. */
    record Met(int wall, Ratio r, boolean front, Ratio share) {
    }

    /** A door, lift or riser under way. */
    static final class Mover {
        int kind;
        String phase;
        int left;
        int end;
        int home;
    }

    final MapMaker map;
    final int[] floors;
    final int[] ceilings;
    final Mover[] movers;
    int x;
    int y;
    int angle;
    int sector;
    int ticks;

    Naive(MapMaker map) {
        this.map = map;
        floors = new int[map.sectors.size()];
        ceilings = new int[map.sectors.size()];
        movers = new Mover[map.sectors.size()];
        begin(map.start[0], map.start[1], map.start[2], map.start[3]);
    }

    void begin(int newX, int newY, int newAngle, int newSector) {
        x = newX;
        y = newY;
        angle = newAngle;
        sector = newSector;
        ticks = 0;
        for (int i = 0; i < floors.length; i++) {
            floors[i] = map.sectors.get(i)[0];
            ceilings[i] = map.sectors.get(i)[1];
            movers[i] = null;
        }
    }

    static int c(int a) {
        if (a <= 16) {
            return K[a];
        }
        if (a <= 32) {
            return -K[32 - a];
        }
        return a <= 48 ? -K[a - 32] : K[64 - a];
    }

    static int s(int a) {
        return c((a + 48) % 64);
    }

    int eye() {
        return floors[sector] + 41;
    }

    int moverCount() {
        int n = 0;
        for (Mover m : movers) {
            n += m == null ? 0 : 1;
        }
        return n;
    }

    int light(int i) {
        int light = map.sectors.get(i)[4];
        int kind = map.sectors.get(i)[5];
        if (kind == 1 && ticks % 16 > 3) {
            return light / 2;
        }
        if (kind == 2 && ticks / 32 % 2 == 1) {
            return 0;
        }
        return kind == 3 ? Math.max(0, light - moverCount()) : light;
    }

    int moverOf(int i) {
        return movers[i] == null ? -1 : movers[i].kind;
    }

    int wayOf(int i) {
        if (movers[i] == null || movers[i].phase.equals("waits")) {
            return 0;
        }
        return movers[i].phase.equals("up") ? 1 : -1;
    }

    // -- rays

    private static Ratio cross(long px, long py, long qx, long qy) {
        return Ratio.of(px).times(qy).minus(Ratio.of(py).times(qx));
    }

    List<Met> meets(int dx, int dy) {
        List<Met> all = new ArrayList<>();
        for (int w = 0; w < map.walls.size(); w++) {
            int[] va = map.vertices.get(map.walls.get(w)[0]);
            int[] vb = map.vertices.get(map.walls.get(w)[1]);
            Ratio a = cross(dx, dy, va[0] - x, va[1] - y);
            Ratio b = cross(dx, dy, vb[0] - x, vb[1] - y);
            if (a.sign() < 0 && b.sign() < 0 || a.sign() >= 0 && b.sign() >= 0) {
                continue;
            }
            Ratio p = cross(va[0] - x, va[1] - y, vb[0] - va[0], vb[1] - va[1]);
            Ratio r = p.by(b.minus(a));
            if (r.sign() > 0) {
                boolean front = p.sign() < 0;
                all.add(new Met(w, r, front, front ? a.by(a.minus(b)) : b.by(b.minus(a))));
            }
        }
        all.sort(Comparator.comparing(Met::r).thenComparing(Met::wall));
        return all;
    }

    private int near(Met m) {
        return map.walls.get(m.wall)[m.front ? 2 : 3];
    }

    private int far(Met m) {
        return map.walls.get(m.wall)[m.front ? 3 : 2];
    }

    // -- a step

    int step(int ahead, int aside, int turn, boolean uses) {
        angle = (angle + turn + 64) % 64;
        int mx = Ratio.of(c(angle) * ahead + s(angle) * aside).by(Ratio.of(256)).floor().intValue();
        int my = Ratio.of(s(angle) * ahead - c(angle) * aside).by(Ratio.of(256)).floor().intValue();
        int answer = 0;
        if (mx != 0 || my != 0) {
            answer = go(mx, my);
        }
        if (uses) {
            use();
        }
        tick();
        return answer;
    }

    private int go(int mx, int my) {
        List<Met> crossed = new ArrayList<>();
        for (Met m : meets(mx, my)) {
            if (m.r.compareTo(Ratio.ONE) <= 0) {
                crossed.add(m);
            }
        }
        for (Met m : crossed) {
            int n = near(m);
            int f = far(m);
            if (map.walls.get(m.wall)[3] == 255 || floors[f] > floors[n] + 24
                || Math.min(ceilings[n], ceilings[f]) < Math.max(floors[n], floors[f]) + 56) {
                return 2;
            }
        }
        if (x + mx < -40000 || x + mx > 40000 || y + my < -40000 || y + my > 40000) {
            return 2;
        }
        x += mx;
        y += my;
        for (Met m : crossed) {
            sector = far(m);
        }
        for (Met m : crossed) {
            int[] w = map.walls.get(m.wall);
            startTagged(w[12] == 2 ? 1 : w[12] == 3 ? 0 : w[12] == 5 ? 2 : -1, w[13]);
        }
        return 1;
    }

    private void use() {
        List<Met> all = meets(c(angle), s(angle));
        if (all.isEmpty() || all.get(0).r.times(4).compareTo(Ratio.ONE) > 0 || !all.get(0).front) {
            return;
        }
        int[] w = map.walls.get(all.get(0).wall);
        if (w[12] == 1 && w[3] != 255) {
            start(0, w[3]);
        }
        if (w[12] == 4) {
            startTagged(1, w[13]);
        }
    }

    // -- movers

    private void startTagged(int kind, int tag) {
        for (int i = 0; kind >= 0 && i < floors.length; i++) {
            if (map.sectors.get(i)[6] == tag) {
                start(kind, i);
            }
        }
    }

    private List<Integer> neighbours(int i) {
        List<Integer> all = new ArrayList<>();
        for (int[] w : map.walls) {
            if (w[3] != 255 && w[2] != w[3] && (w[2] == i || w[3] == i)) {
                all.add(w[2] == i ? w[3] : w[2]);
            }
        }
        return all;
    }

    private void start(int kind, int i) {
        if (movers[i] != null) {
            if (kind == 0 && movers[i].kind == 0) {
                movers[i].phase = "up";
            }
            return;
        }
        Mover m = new Mover();
        m.kind = kind;
        m.phase = kind == 1 ? "down" : "up";
        m.home = floors[i];
        List<Integer> near = neighbours(i);
        if (kind == 0) {
            int low = near.stream().mapToInt(n -> ceilings[n]).min().orElse(ceilings[i]);
            m.end = Math.max(low - 4, ceilings[i]);
        } else if (kind == 1) {
            m.end = Math.min(floors[i], near.stream().mapToInt(n -> floors[n]).min().orElse(floors[i]));
        } else {
            int high = Math.max(floors[i], near.stream().mapToInt(n -> floors[n]).max().orElse(floors[i]));
            m.end = Math.min(high, ceilings[i]);
        }
        movers[i] = m;
    }

    private void tick() {
        ticks++;
        for (int i = 0; i < floors.length; i++) {
            if (movers[i] != null) {
                tick(i, movers[i]);
            }
        }
    }

    private void tick(int i, Mover m) {
        if (m.phase.equals("waits")) {
            m.left--;
            if (m.left == 0) {
                m.phase = m.kind == 0 ? "down" : "up";
            }
            return;
        }
        boolean up = m.phase.equals("up");
        int floor = floors[i];
        int ceiling = ceilings[i];
        boolean ended;
        if (m.kind == 0) {
            ceiling = up ? Math.min(ceiling + 8, m.end) : Math.max(ceiling - 8, floor);
            ended = ceiling == (up ? m.end : floor);
        } else {
            int end = m.kind == 1 && up ? m.home : m.end;
            floor = !up ? Math.max(floor - 4, end) : Math.min(floor + (m.kind == 1 ? 4 : 2), end);
            ended = floor == end;
        }
        if (sector == i && ceiling - floor < 56 && up != (m.kind == 0)) {
            if (m.kind == 0) {
                m.phase = "up";
                return;
            }
            if (up) {
                return;
            }
        }
        floors[i] = floor;
        ceilings[i] = ceiling;
        if (ended && m.kind < 2 && up == (m.kind == 0)) {
            m.phase = "waits";
            m.left = m.kind == 0 ? 20 : 30;
        } else if (ended) {
            movers[i] = null;
        }
    }

    // -- the view

    final int[] surfaces = new int[48];
    final int[] pixels = new int[48];
    final List<Integer> met = new ArrayList<>();

    void look(int column) {
        java.util.Arrays.fill(surfaces, 0);
        java.util.Arrays.fill(pixels, 0);
        met.clear();
        int k = 2 * column - 63;
        int dx = 64 * c(angle) + k * s(angle);
        int dy = 64 * s(angle) - k * c(angle);
        int top = 0;
        int bottom = 48;
        for (Met m : meets(dx, dy)) {
            if (near(m) == 255) {
                continue;
            }
            if (top >= bottom) {
                break;
            }
            met.add(m.wall);
            int n = near(m);
            int f = far(m);
            int cRow = between(row(ceilings[n], m.r), top, bottom);
            for (int y1 = top; y1 < cRow; y1++) {
                plane(y1, n, true, dx, dy);
            }
            int fRow = between(row(floors[n], m.r), cRow, bottom);
            for (int y1 = fRow; y1 < bottom; y1++) {
                plane(y1, n, false, dx, dy);
            }
            if (f == 255) {
                wall(cRow, fRow, 3, m);
                top = bottom;
                break;
            }
            int u = ceilings[f] < ceilings[n] ? between(row(ceilings[f], m.r), cRow, fRow) : cRow;
            wall(cRow, u, 4, m);
            int l = floors[f] > floors[n] ? between(row(floors[f], m.r), u, fRow) : fRow;
            wall(l, fRow, 5, m);
            top = u;
            bottom = l;
        }
    }

    private java.math.BigInteger row(int z, Ratio r) {
        java.math.BigInteger down = Ratio.of(z - eye()).by(r.times(512)).floor();
        return java.math.BigInteger.valueOf(24).subtract(down);
    }

    private static int between(java.math.BigInteger v, int l, int h) {
        if (v.compareTo(java.math.BigInteger.valueOf(l)) < 0) {
            return l;
        }
        return v.compareTo(java.math.BigInteger.valueOf(h)) > 0 ? h : v.intValue();
    }

    private int texel(int t, int u, int v) {
        int[] texture = map.textures.get(t);
        return texture[2 + v * (1 << texture[0]) + u];
    }

    private int shade(int sectorNumber, Ratio distance) {
        return Math.max(0, Ratio.of(light(sectorNumber)).minus(Ratio.of(distance.times(64).floor().longValueExact()))
            .floor().intValueExact());
    }

    private void plane(int row, int n, boolean isCeiling, int dx, int dy) {
        int texture = map.sectors.get(n)[isCeiling ? 3 : 2];
        if (texture == 255) {
            surfaces[row] = 256 * 6 + n;
            pixels[row] = 16 * (15 - row / 4) + 15;
            return;
        }
        surfaces[row] = 256 * (isCeiling ? 1 : 2) + n;
        int z = isCeiling ? ceilings[n] : floors[n];
        Ratio distance = Ratio.of(z - eye()).by(Ratio.of((47 - 2 * row) * 256));
        if (distance.sign() < 0) {
            distance = Ratio.ZERO;
        }
        int u = Ratio.of(x).plus(distance.times(dx)).floorModulo(1 << map.textures.get(texture)[0]);
        int v = Ratio.of(y).plus(distance.times(dy)).floorModulo(1 << map.textures.get(texture)[1]);
        pixels[row] = 16 * texel(texture, u, v) + shade(n, distance);
    }

    private void wall(int from, int to, int kind, Met m) {
        int[] w = map.walls.get(m.wall);
        int[] va = map.vertices.get(w[0]);
        int[] vb = map.vertices.get(w[1]);
        int part = kind == 4 ? 0 : kind == 3 ? 1 : 2;
        int texture = w[4 + part + (m.front ? 0 : 3)];
        int length = Math.max(Math.abs(va[0] - vb[0]), Math.abs(va[1] - vb[1]));
        for (int row = from; row < to; row++) {
            surfaces[row] = 256 * kind + m.wall;
            int texel = 0;
            if (texture != 255) {
                int h = 1 << map.textures.get(texture)[1];
                Ratio u = Ratio.of(m.share.times(length).floor().longValueExact() + w[10] / 16);
                Ratio z = Ratio.of(eye() + m.r.times((47 - 2 * row) * 256L).floor().longValueExact());
                Ratio v = Ratio.of(anchor(kind, m, h) - 1 + w[10] % 16).minus(z);
                texel = texel(texture, u.floorModulo(1 << map.textures.get(texture)[0]), v.floorModulo(h));
            }
            pixels[row] = 16 * texel + shade(near(m), m.r);
        }
    }

    private int anchor(int kind, Met m, int h) {
        int pegs = map.walls.get(m.wall)[11];
        if (kind == 4) {
            return pegs % 2 == 1 ? ceilings[near(m)] : ceilings[far(m)] + h;
        }
        if (kind == 3) {
            return pegs >= 2 ? floors[near(m)] + h : ceilings[near(m)];
        }
        return pegs >= 2 ? ceilings[near(m)] : floors[far(m)];
    }
}
