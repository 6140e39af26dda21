/** Hands bytes to an object, and reads them back. */
final class Give {
    private Give() {
    }

    /** These bytes, and none that were there before. */
    static void bytes(SectorView view, int... bytes) {
        view.cutBytes(0);
        for (int i = 0; i < bytes.length; i += 8) {
            int n = Math.min(8, bytes.length - i);
            long v = 0;
            for (int k = 0; k < n; k++) {
                v = v << 8 | bytes[i + k];
            }
            view.giveBytes(v, n);
        }
    }

    static int map(SectorView view, int... bytes) {
        bytes(view, bytes);
        return view.loadMap();
    }

    static int run(SectorView view, int... bytes) {
        bytes(view, bytes);
        return view.loadDemo();
    }

    static SectorView withMap(MapMaker map) {
        SectorView view = new SectorView();
        if (map(view, map.bytes()) != 0) {
            System.out.println("the map of a test has fault " + view.lookAt(7) + " at " + view.lookAt(8));
            System.exit(1);
        }
        return view;
    }

    static void dueWritten(Checks checks, String what, SectorView view, int[] want) {
        checks.due(what + ": lookAt(6)", view.lookAt(6), want.length);
        for (int i = 0; i < want.length; i++) {
            checks.due(what + ": byteOf(" + i + ", false)", view.byteOf(i, false), want[i]);
        }
    }
}
