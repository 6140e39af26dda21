import java.util.Arrays;

/** Small maps whose bytes lie at known places, and the faults that are due when some of them are others. */
final class Edges {
    private static final int NO = MapMaker.NO;

    private Edges() {
    }

    /** The fewest things a map can have. */
    static MapMaker least() {
        return new MapMaker().texture(0, 0, 5).sector(0, 100, 0, NO, 9, 0, 0);
    }

    /**
     * Byte by byte, as the document lists them: vertices at 7 and 11 and 15, a texture at 19, sectors at 22 and 31, walls at 40 and
     * 54, START at 68, the CHECK at 74.
     */
    static int[] known() {
        return MapMaker.checked(new int[] {
            77, 72, 1, 3, 1, 2, 2,
            0, 0, 0, 0,
            0, 100, 0, 0,
            0, 0, 255, 156,
            0, 0, 5,
            0, 0, 0, 100, 0, 255, 9, 0, 0,
            255, 240, 0, 90, 0, 0, 15, 3, 255,
            0, 1, 0, 255, 0, 255, 0, 255, 255, 255, 0, 0, 0, 0,
            0, 2, 1, 0, 255, 0, 255, 0, 255, 0, 255, 3, 5, 255,
            0, 30, 255, 226, 63, 1});
    }

    static final int KNOWN_CHECK = 74;

    /** The known map with other bytes, given as place, byte, place, byte, .., and the check that is right for them. */
    static int[] poked(int... placesAndBytes) {
        int[] body = Arrays.copyOf(known(), KNOWN_CHECK);
        for (int i = 0; i < placesAndBytes.length; i += 2) {
            body[placesAndBytes[i]] = placesAndBytes[i + 1];
        }
        return MapMaker.checked(body);
    }

    /** The first n bytes; those that are missing are 0. */
    static int[] first(int n, int[] bytes) {
        return Arrays.copyOf(bytes, n);
    }

    /** These bytes with another one; the check is not made right for it. */
    static int[] with(int[] bytes, int place, int b) {
        int[] others = bytes.clone();
        others[place] = b;
        return others;
    }

    /** The fault and the place of a map's bytes, on a new object; fault 0 is none. */
    static void dueMap(Sentences s, String what, int[] bytes, int fault, int place) {
        SectorView view = new SectorView();
        s.due(what + ": loadMap()", Give.map(view, bytes), fault);
        s.due(what + ": lookAt(7)", view.lookAt(7), fault);
        s.due(what + ": lookAt(8)", view.lookAt(8), fault == 0 ? -1 : place);
        s.due(what + ": lookAt(12)", view.lookAt(12), fault == 0 ? 1 : 0);
    }

    /** The known map with other bytes is read, or has fault 3 at a place. */
    static void duePoked(Sentences s, int faultPlace, int... placesAndBytes) {
        dueMap(s, Arrays.toString(placesAndBytes), poked(placesAndBytes), faultPlace < 0 ? 0 : 3, faultPlace);
    }

    /** The fault and the place of a run's bytes, on an object with the known map; fault 0 is none. */
    static void dueRun(Sentences s, String what, int[] bytes, int fault, int place) {
        SectorView view = new SectorView();
        Give.map(view, known());
        s.due(what + ": loadDemo()", Give.run(view, bytes), fault);
        s.due(what + ": lookAt(7)", view.lookAt(7), fault);
        s.due(what + ": lookAt(8)", view.lookAt(8), fault == 0 ? -1 : place);
    }
}
