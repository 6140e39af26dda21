import java.util.Arrays;

/** Promises 5 and 7: maps from bytes and back, and the faults of a map with their places. */
public final class MapBytesTest {
    private static final Checks CHECKS = new Checks();
    private static final int NO = MapMaker.NO;

    public static void main(String[] args) {
        goodMap();
        cutShort();
        firstBytes();
        counts();
        verticesAndTextures();
        sectors();
        walls();
        startAndCheck();
        faultsChangeNothing();
        overlaps();
        largest();
        CHECKS.end();
    }

    private static MapMaker sample() {
        return new MapMaker()
            .vertex(-32768, 32767).vertex(300, -5).vertex(7, 8).vertex(0, -400)
            .texture(1, 0, 3, 15).texture(0, 2, 0, 1, 2, 15)
            .sector(-1024, 1024, 0, NO, 15, 3, 255).sector(-7, 90, 1, 1, 0, 0, 0)
            .wall(0, 1, 0, NO, 0, 1, NO, NO, NO, NO, 0xA7, 3, 5, 200)
            .wall(1, 2, 1, 0, NO, NO, NO, 1, 0, NO, 0, 0, 0, 0)
            .wall(2, 3, 1, 1, NO, NO, NO, 1, 0, NO, 255, 1, 1, 1)
            .start(-20, 10, 63, 1);
    }

    private static void due(String what, int[] bytes, int fault, int place) {
        SectorView view = new SectorView();
        CHECKS.due(what + ": loadMap()", Give.map(view, bytes), fault);
        CHECKS.due(what + ": lookAt(7)", view.lookAt(7), fault);
        CHECKS.due(what + ": lookAt(8)", view.lookAt(8), fault == 0 ? -1 : place);
        CHECKS.due(what + ": lookAt(12)", view.lookAt(12), fault == 0 ? 1 : 0);
        CHECKS.due(what + ": lookAt(2)", view.lookAt(2) == -1, fault != 0);
    }

    /** One byte is another one, and the check is right for that. */
    private static void changed(String what, int place, int b, int fault, int faultPlace) {
        due(what, MapMaker.changed(sample().bytes(), place, b), fault, faultPlace);
    }

    private static void goodMap() {
        int[] bytes = sample().bytes();
        SectorView view = new SectorView();
        CHECKS.due("loadMap", Give.map(view, bytes), 0);
        int[] looks = {4, 2, 2, 3, 0, bytes.length, 0, 0, -1};
        for (int which = 0; which < looks.length; which++) {
            CHECKS.due("lookAt(" + which + ")", view.lookAt(which), looks[which]);
        }
        int[] walker = {-20, 10, 63, 1, 34, 0};
        for (int what = 0; what < walker.length; what++) {
            CHECKS.due("walkerOf(" + what + ")", view.walkerOf(what), walker[what]);
        }
        CHECKS.due("sectorOf(0, 0)", view.sectorOf(0, 0), -1024);
        CHECKS.due("sectorOf(0, 1)", view.sectorOf(0, 1), 1024);
        view.startAt(1, 1, 1, 0);
        CHECKS.due("saveMap", view.saveMap(), bytes.length);
        Give.dueWritten(CHECKS, "as it was read", view, bytes);
        CHECKS.due("lookAt(12)", view.lookAt(12), 1);
        CHECKS.due("again", view.loadMap(), 0);
        CHECKS.due("lookAt(12)", view.lookAt(12), 2);
        CHECKS.due("at START again", view.walkerOf(0), -20);
    }

    private static void cutShort() {
        int[] bytes = sample().bytes();
        for (int n = 0; n < bytes.length; n++) {
            due("the first " + n + " bytes", Arrays.copyOf(bytes, n), 1, n);
        }
        due("one more", Arrays.copyOf(bytes, bytes.length + 1), 5, bytes.length);
        due("two more", Arrays.copyOf(bytes, bytes.length + 2), 5, bytes.length);
    }

    private static void firstBytes() {
        changed("76", 0, 76, 2, 0);
        changed("a run", 1, 68, 2, 1);
        changed("2", 2, 2, 2, 2);
        due("a wrong one alone", new int[] {1}, 2, 0);
        due("a wrong one behind", new int[] {77, 72, 0}, 2, 2);
    }

    private static void counts() {
        changed("129 vertices", 3, 129, 3, 3);
        changed("17 textures", 4, 17, 3, 4);
        changed("no sector", 5, 0, 3, 5);
        changed("33 sectors", 5, 33, 3, 5);
        changed("129 walls", 6, 129, 3, 6);
        due("seen at once", new int[] {77, 72, 1, 200}, 3, 3);
        due("128, then the end", new int[] {77, 72, 1, 128, 16, 32, 128}, 1, 7);
        due("no texture: no sector can have a floor",
            MapMaker.checked(new int[] {77, 72, 1, 0, 0, 1, 0, 0, 0, 0, 9, 0, 255, 3, 0, 0, 0, 0, 0, 0, 0, 0}), 3, 11);
        MapMaker least = new MapMaker().texture(0, 0, 0).sector(0, 1, 0, NO, 0, 0, 0);
        due("nothing but a sector", least.bytes(), 0, -1);
    }

    private static void verticesAndTextures() {
        MapMaker twice = new MapMaker().vertex(3, 4).vertex(4, 3).vertex(3, 4).texture(0, 0, 0).sector(0, 9, 0, 0, 0, 0, 0);
        due("a vertex twice", twice.bytes(), 3, 7 + 2 * 4 + 2);
        due("its y is to be read", Arrays.copyOf(twice.bytes(), 7 + 2 * 4 + 3), 1, 7 + 2 * 4 + 3);
        int at = sample().texturePlace(0);
        changed("W of 32", at, 5, 3, at);
        changed("H of 32", at + 1, 5, 3, at + 1);
        changed("a texel of 16", at + 3, 16, 3, at + 3);
        int last = sample().sectorPlace(0) - 1;
        changed("the last texel", last, 255, 3, last);
    }

    private static void sectors() {
        int at = sample().sectorPlace(1);
        changed("a floor of 1024 + ..", at, 4, 3, at);
        changed("a floor of -1024 - ..", at, 0x80, 3, at);
        changed("a ceiling of 1024 + 90", at + 2, 4, 3, at + 2);
        changed("a ceiling below the floor", at + 2, 0xFF, 3, at + 2);
        MapMaker flat = new MapMaker().texture(0, 0, 0).sector(5, 5, 0, 0, 0, 0, 0);
        due("a ceiling on the floor", flat.bytes(), 3, flat.sectorPlace(0) + 2);
        MapMaker high = new MapMaker().texture(0, 0, 0).sector(1025, 1026, 0, 0, 0, 0, 0);
        due("a floor of 1025", high.bytes(), 3, high.sectorPlace(0));
        MapMaker low = new MapMaker().texture(0, 0, 0).sector(-1025, 0, 0, 0, 0, 0, 0);
        due("a floor of -1025", low.bytes(), 3, low.sectorPlace(0));
        MapMaker top = new MapMaker().texture(0, 0, 0).sector(1023, 1025, 0, 0, 0, 0, 0);
        due("a ceiling of 1025", top.bytes(), 3, top.sectorPlace(0) + 2);
        MapMaker under = new MapMaker().texture(0, 0, 0).sector(1024, 1024, 0, 0, 0, 0, 0);
        due("a floor of 1024", under.bytes(), 3, under.sectorPlace(0) + 2);
        changed("the floor's texture", at + 4, 2, 3, at + 4);
        changed("no floor's texture", at + 4, NO, 3, at + 4);
        changed("the ceiling's texture", at + 5, 2, 3, at + 5);
        changed("sky", at + 5, NO, 0, -1);
        changed("a light of 16", at + 6, 16, 3, at + 6);
        changed("a kind of 4", at + 7, 4, 3, at + 7);
        changed("a tag of 255", at + 8, 255, 0, -1);
    }

    private static void walls() {
        int at = sample().wallPlace(1);
        changed("no such vertex", at, 4, 3, at);
        changed("no such second vertex", at + 1, 4, 3, at + 1);
        changed("one vertex", at + 1, 1, 3, at + 1);
        changed("no such front", at + 2, 2, 3, at + 2);
        changed("no front", at + 2, NO, 3, at + 2);
        changed("no such back", at + 3, 2, 3, at + 3);
        changed("no back, which has a texture", at + 3, NO, 3, at + 7);
        for (int i = 4; i < 10; i++) {
            changed("no such texture", at + i, 2, 3, at + i);
            changed("a texture", at + i, 1, 0, -1);
            changed("no texture", at + i, NO, 0, -1);
        }
        int single = sample().wallPlace(0);
        for (int i = 7; i < 10; i++) {
            changed("a texture of no back", single + i, 0, 3, single + i);
        }
        changed("offsets", at + 10, 255, 0, -1);
        changed("pegs of 4", at + 11, 4, 3, at + 11);
        changed("a kind of 6", at + 12, 6, 3, at + 12);
        changed("a tag of 255", at + 13, 255, 0, -1);
    }

    private static void startAndCheck() {
        int at = sample().startPlace();
        changed("x", at, 0x80, 0, -1);
        changed("an angle of 64", at + 4, 64, 3, at + 4);
        changed("no such sector", at + 5, 2, 3, at + 5);
        int[] bytes = sample().bytes();
        int check = sample().checkPlace();
        for (int i = 0; i < 2; i++) {
            int[] other = bytes.clone();
            other[check + i] ^= 1;
            due("the check's byte " + i, other, 4, check + i);
        }
        int[] both = bytes.clone();
        both[check] ^= 1;
        both[check + 1] ^= 1;
        due("both of them", both, 4, check);
        due("the first is seen though the second is not there", Arrays.copyOf(both, check + 1), 4, check);
        int[] texel = bytes.clone();
        texel[sample().texturePlace(0) + 2] ^= 1;
        due("a texel that was not checked", texel, 4, check);
        int[] mixed = bytes.clone();
        mixed[sample().sectorPlace(0) - 1] = 1;
        mixed[sample().sectorPlace(0) - 2] = 16;
        due("a fault ahead of the check", mixed, 3, sample().sectorPlace(0) - 2);
    }

    private static void faultsChangeNothing() {
        int[] bytes = sample().bytes();
        SectorView view = new SectorView();
        Give.map(view, bytes);
        view.addInput(1, 2, 3, true);
        view.stepBy(5, 0, 1, false);
        int x = view.walkerOf(0);
        long frame = view.frameOf();
        MapMaker other = new MapMaker().texture(0, 0, 1).sector(0, 50, 0, 0, 1, 0, 0).sector(1, 60, 0, 0, 1, 0, 0).start(9, 9, 9, 1);
        int[] broken = other.bytes();
        broken[broken.length - 1] ^= 1;
        CHECKS.due("a fault", Give.map(view, broken), 4);
        CHECKS.due("lookAt(0)", view.lookAt(0), 4);
        CHECKS.due("lookAt(3)", view.lookAt(3), 3);
        CHECKS.due("lookAt(4)", view.lookAt(4), 1);
        CHECKS.due("lookAt(12)", view.lookAt(12), 1);
        CHECKS.due("walkerOf(0)", view.walkerOf(0), x);
        CHECKS.due("walkerOf(5)", view.walkerOf(5), 1);
        CHECKS.due("sectorOf(1, 1)", view.sectorOf(1, 1), 90);
        CHECKS.due("frameOf", view.frameOf(), frame);
        CHECKS.due("saveMap", view.saveMap(), bytes.length);
        Give.dueWritten(CHECKS, "the old map", view, bytes);
        CHECKS.due("the other map", Give.map(view, other.bytes()), 0);
        CHECKS.due("lookAt(4): the run is empty", view.lookAt(4), 0);
        CHECKS.due("walkerOf(0)", view.walkerOf(0), 9);
        CHECKS.due("lookAt(9)", view.lookAt(9), 0);
        CHECKS.due("lookAt(7)", view.lookAt(7), 0);
        CHECKS.due("lookAt(8)", view.lookAt(8), -1);
        CHECKS.due("saveMap", view.saveMap(), other.bytes().length);
    }

    /** Walls 0-1 .. of vertices that are given as x, y, x, y, ..; the fault is due at the last one, if at all. */
    private static void wallsDue(String what, boolean fault, int[] places, int... ends) {
        MapMaker map = new MapMaker().texture(0, 0, 0).sector(0, 99, 0, 0, 0, 0, 0);
        for (int i = 0; i < places.length; i += 2) {
            map.vertex(places[i], places[i + 1]);
        }
        for (int i = 0; i < ends.length; i += 2) {
            map.plainWall(ends[i], ends[i + 1], 0, 0, 0, 0);
        }
        due(what, map.bytes(), fault ? 6 : 0, map.wallPlace(ends.length / 2 - 1));
    }

    private static void overlaps() {
        int[] square = {0, 0, 10, 0, 10, 10, 0, 10};
        wallsDue("a square", false, square, 0, 1, 1, 2, 2, 3, 3, 0);
        wallsDue("a square with one diagonal", false, square, 0, 1, 1, 2, 2, 3, 3, 0, 0, 2);
        wallsDue("both diagonals", true, square, 0, 2, 1, 3);
        wallsDue("the same wall", true, square, 0, 1, 0, 1);
        wallsDue("the same wall, turned", true, square, 0, 1, 1, 0);
        int[] row = {0, 0, 10, 0, 20, 0, 30, 0};
        wallsDue("one behind the other", false, row, 0, 1, 1, 2, 3, 2);
        wallsDue("apart on one line", false, row, 0, 1, 2, 3);
        wallsDue("along another one from its vertex", true, row, 0, 1, 0, 2);
        wallsDue("along another one to its vertex", true, row, 1, 2, 0, 2);
        wallsDue("within another one", true, row, 0, 3, 1, 2);
        wallsDue("around another one", true, row, 1, 2, 0, 3);
        wallsDue("half along another one", true, row, 0, 2, 1, 3);
        int[] tee = {0, 0, 10, 0, 5, 0, 5, 9, 5, 1};
        wallsDue("a vertex within one", true, tee, 0, 1, 2, 3);
        wallsDue("one with a vertex within", true, tee, 3, 2, 1, 0);
        wallsDue("just beside it", false, tee, 0, 1, 3, 4);
        int[] lying = {0, 0, 0, 10, 0, 5, 9, 5, -9, 5, 1, 5};
        wallsDue("a vertex within one, from the right", true, lying, 0, 1, 2, 3);
        wallsDue("one with a vertex within, from the right", true, lying, 3, 2, 0, 1);
        wallsDue("a vertex within one, from the left", true, lying, 0, 1, 4, 2);
        wallsDue("one with a vertex within, from the left", true, lying, 4, 2, 0, 1);
        wallsDue("just beside it", false, lying, 0, 1, 3, 5);
        int[] wide = {-32768, -32768, 32767, 32767, -32768, 32767, 32767, -32768, 0, 1, 1, 0};
        wallsDue("across all", true, wide, 0, 1, 2, 3);
        wallsDue("a short one across", true, wide, 0, 1, 4, 5);
        int[] close = {-32768, -32768, 32767, 32766, 0, 0, 1, 1};
        wallsDue("just beside a long one", false, close, 0, 1, 2, 3);
        MapMaker two = new MapMaker().texture(0, 0, 0).sector(0, 99, 0, 0, 0, 0, 0)
            .vertex(0, 0).vertex(10, 0).vertex(10, 10).vertex(0, 10)
            .plainWall(0, 1, 0, 0, 0, 0).plainWall(0, 2, 0, 0, 0, 0).plainWall(1, 3, 0, 0, 0, 0).plainWall(1, 0, 0, 0, 0, 0);
        due("the first such wall", two.bytes(), 6, two.wallPlace(2));
        due("bytes left behind are seen ahead of that", Arrays.copyOf(two.bytes(), two.bytes().length + 1), 5, two.bytes().length);
    }

    private static void largest() {
        MapMaker map = new MapMaker();
        for (int i = 0; i < 128; i++) {
            map.vertex(i * 10, i % 2 * 10);
        }
        for (int i = 0; i < 16; i++) {
            map.texture(4, 4, new int[256]);
        }
        for (int i = 0; i < 32; i++) {
            map.sector(0, 99, 15, i % 16, 0, 0, 0);
        }
        for (int i = 0; i < 127; i++) {
            map.plainWall(i, i + 1, 31, 0, 0, 0);
        }
        map.plainWall(0, 2, 31, NO, 0, 0).start(0, 0, 0, 31);
        SectorView view = new SectorView();
        CHECKS.due("the largest map", Give.map(view, map.bytes()), 0);
        CHECKS.due("lookAt(0)", view.lookAt(0), 128);
        CHECKS.due("lookAt(1)", view.lookAt(1), 16);
        CHECKS.due("lookAt(2)", view.lookAt(2), 32);
        CHECKS.due("lookAt(3)", view.lookAt(3), 128);
        CHECKS.due("saveMap", view.saveMap(), map.bytes().length);
        Give.dueWritten(CHECKS, "the largest map", view, map.bytes());
    }
}
