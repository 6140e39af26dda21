/** Walls across the way along x, each from (x, 200) to (x, -200): coming from lower x is coming from the front. */
final class Corridor {
    private static final int NO = MapMaker.NO;
    final MapMaker map = new MapMaker().texture(0, 0, 7);

    Corridor sector(int floor, int ceiling, int light, int kind, int tag) {
        map.sector(floor, ceiling, 0, 0, light, kind, tag);
        return this;
    }

    Corridor wall(int x, int front, int back, int kind, int tag) {
        int n = map.vertices.size();
        map.vertex(x, 200).vertex(x, -200).plainWall(n, n + 1, front, back, kind, tag);
        return this;
    }

    Corridor solid(int x, int front) {
        return wall(x, front, NO, 0, 0);
    }

    SectorView view() {
        return Give.withMap(map);
    }
}
