/** Promises 1 to 4, 9 and 23: a new object, and its bytes. */
public final class BytesTest {
    private static final Checks CHECKS = new Checks();

    public static void main(String[] args) {
        newObject();
        giving();
        room();
        cutting();
        poking();
        turning();
        CHECKS.end();
    }

    private static void newObject() {
        SectorView view = new SectorView();
        int[] looks = {-1, -1, -1, -1, 0, 0, 0, 0, -1, -1, -1, 0, 0, -1};
        for (int which = 0; which < looks.length; which++) {
            CHECKS.due("new: lookAt(" + which + ")", view.lookAt(which), looks[which]);
        }
        CHECKS.due("new: walkerOf(0)", view.walkerOf(0), 100000);
        CHECKS.due("new: sectorOf(0, 0)", view.sectorOf(0, 0), 100000);
        CHECKS.due("new: pixelAt", view.pixelAt(0, 0), -1);
        CHECKS.due("new: surfaceAt", view.surfaceAt(0, 0), -1);
        CHECKS.due("new: metAt", view.metAt(0, 0), -1);
        CHECKS.due("new: frameOf", view.frameOf(), 0);
        CHECKS.due("new: nodeOf", view.nodeOf(0, 0), -1);
        CHECKS.due("new: leafOf", view.leafOf(0, 0), -1);
        CHECKS.due("new: byteOf", view.byteOf(0, false), -1);
        CHECKS.due("new: saveMap", view.saveMap(), -1);
        CHECKS.due("new: saveDemo", view.saveDemo(), -1);
        CHECKS.due("new: startAt", view.startAt(0, 0, 0, 0), false);
        CHECKS.due("new: addInput", view.addInput(0, 0, 0, false), -1);
        CHECKS.due("new: dropInputs(0)", view.dropInputs(0), true);
        CHECKS.due("new: dropInputs(1)", view.dropInputs(1), false);
        CHECKS.due("new: playTo(0)", view.playTo(0), -1);
        CHECKS.due("new: stepBy", view.stepBy(0, 0, 0, false), -1);
    }

    private static void giving() {
        SectorView view = new SectorView();
        CHECKS.due("giveBytes(.., 0)", view.giveBytes(1, 0), false);
        CHECKS.due("giveBytes(.., 9)", view.giveBytes(1, 9), false);
        CHECKS.due("giveBytes(.., -1)", view.giveBytes(1, -1), false);
        CHECKS.due("giveBytes(.., least)", view.giveBytes(1, Integer.MIN_VALUE), false);
        CHECKS.due("giveBytes(.., most)", view.giveBytes(1, Integer.MAX_VALUE), false);
        CHECKS.due("nothing came", view.lookAt(5), 0);
        CHECKS.due("giveBytes(.., 8)", view.giveBytes(0x80FF017F00A1B2C3L, 8), true);
        CHECKS.due("giveBytes(.., 3)", view.giveBytes(0x1122334455667788L, 3), true);
        CHECKS.due("giveBytes(-2, 1)", view.giveBytes(-2, 1), true);
        int[] want = {0x80, 0xFF, 0x01, 0x7F, 0x00, 0xA1, 0xB2, 0xC3, 0x66, 0x77, 0x88, 0xFE};
        CHECKS.due("lookAt(5)", view.lookAt(5), want.length);
        for (int i = 0; i < want.length; i++) {
            CHECKS.due("byteOf(" + i + ", true)", view.byteOf(i, true), want[i]);
        }
        CHECKS.due("byteOf(12, true)", view.byteOf(12, true), -1);
        CHECKS.due("byteOf(-1, true)", view.byteOf(-1, true), -1);
        CHECKS.due("byteOf(most, true)", view.byteOf(Integer.MAX_VALUE, true), -1);
        CHECKS.due("byteOf(least, true)", view.byteOf(Integer.MIN_VALUE, true), -1);
        CHECKS.due("byteOf(0, false)", view.byteOf(0, false), -1);
    }

    private static void room() {
        SectorView view = new SectorView();
        for (int i = 0; i < 1023; i++) {
            CHECKS.due("giveBytes " + i, view.giveBytes(i, 8), true);
        }
        CHECKS.due("7 more", view.giveBytes(0x01020304050607L, 7), true);
        CHECKS.due("2 more have no room", view.giveBytes(0x0809, 2), false);
        CHECKS.due("lookAt(5)", view.lookAt(5), 8191);
        CHECKS.due("1 more", view.giveBytes(9, 1), true);
        CHECKS.due("none more", view.giveBytes(9, 1), false);
        CHECKS.due("lookAt(5)", view.lookAt(5), 8192);
        CHECKS.due("the last", view.byteOf(8191, true), 9);
        CHECKS.due("the one ahead of it", view.byteOf(8190, true), 7);
        CHECKS.due("one of the first", view.byteOf(8 * 1000 + 7, true), 1000 & 255);
    }

    private static void cutting() {
        SectorView view = new SectorView();
        view.giveBytes(0x0102030405L, 5);
        CHECKS.due("cutBytes(6)", view.cutBytes(6), false);
        CHECKS.due("cutBytes(-1)", view.cutBytes(-1), false);
        CHECKS.due("cutBytes(5)", view.cutBytes(5), true);
        CHECKS.due("lookAt(5)", view.lookAt(5), 5);
        CHECKS.due("cutBytes(2)", view.cutBytes(2), true);
        CHECKS.due("lookAt(5)", view.lookAt(5), 2);
        CHECKS.due("byteOf(2, true)", view.byteOf(2, true), -1);
        CHECKS.due("byteOf(1, true)", view.byteOf(1, true), 2);
        view.giveBytes(9, 1);
        CHECKS.due("byteOf(2, true)", view.byteOf(2, true), 9);
        CHECKS.due("cutBytes(0)", view.cutBytes(0), true);
        CHECKS.due("lookAt(5)", view.lookAt(5), 0);
    }

    private static void poking() {
        SectorView view = new SectorView();
        CHECKS.due("pokeByte(0, 1) of none", view.pokeByte(0, 1), false);
        view.giveBytes(0x0102, 2);
        CHECKS.due("pokeByte(2, 1)", view.pokeByte(2, 1), false);
        CHECKS.due("pokeByte(-1, 1)", view.pokeByte(-1, 1), false);
        CHECKS.due("pokeByte(1, 0x1FE)", view.pokeByte(1, 0x1FE), true);
        CHECKS.due("byteOf(1, true)", view.byteOf(1, true), 0xFE);
        CHECKS.due("pokeByte(0, -1)", view.pokeByte(0, -1), true);
        CHECKS.due("byteOf(0, true)", view.byteOf(0, true), 255);
        CHECKS.due("lookAt(5)", view.lookAt(5), 2);
    }

    private static void turning() {
        MapMaker map = new MapMaker().texture(0, 0, 5).sector(0, 100, 0, 0, 9, 0, 0).start(1, 2, 3, 0);
        SectorView view = Give.withMap(map);
        Give.bytes(view, 1, 2, 3);
        view.turnBytes();
        CHECKS.due("none were written: lookAt(5)", view.lookAt(5), 0);
        Give.bytes(view, 1, 2, 3);
        int size = view.saveMap();
        view.turnBytes();
        CHECKS.due("lookAt(5)", view.lookAt(5), size);
        CHECKS.due("lookAt(6)", view.lookAt(6), size);
        view.pokeByte(0, 1);
        CHECKS.due("the written ones stay", view.byteOf(0, false), 77);
        CHECKS.due("the others were poked", view.byteOf(0, true), 1);
        view.turnBytes();
        CHECKS.due("turned again", view.byteOf(0, true), 77);
        CHECKS.due("loadMap", view.loadMap(), 0);
    }
}
