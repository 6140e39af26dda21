/** The boundary sentences of promises 1 to 4, 9 and 23: a new object, and its bytes. */
public final class EdgesOfBytesTest {
    private static final Sentences S = new Sentences();
    private static final int LEAST = Integer.MIN_VALUE;
    private static final int MOST = Integer.MAX_VALUE;

    public static void main(String[] args) {
        S.test("An object is used for at most 512 calls after it has been made", EdgesOfBytesTest::call512);
        S.test("No MAP", EdgesOfBytesTest::noMap);
        S.test("no BYTES", EdgesOfBytesTest::noBytes);
        S.test("THE RUN is empty; the walker is nowhere.", EdgesOfBytesTest::noRunAndNowhere);
        S.test("n bytes of v, 1 .. 8, the highest first (of its lowest n), come to the BYTES", EdgesOfBytesTest::eachCount);
        S.test("false if n is not as said", EdgesOfBytesTest::wrongCounts);
        S.test("of which there are up to 8192", EdgesOfBytesTest::full);
        S.test("or there is no room", EdgesOfBytesTest::noRoom);
        S.test("There are the first n BYTES alone: true", EdgesOfBytesTest::cut);
        S.test("false if there are fewer, or n is below 0.", EdgesOfBytesTest::wrongCuts);
        S.test("BYTE k is b now (its lowest eight bits): true", EdgesOfBytesTest::poked);
        S.test("false if there is none such", EdgesOfBytesTest::wrongPokes);
        S.test("The BYTES become what the WRITTEN bytes are, which stay", EdgesOfBytesTest::turned);
        S.test("(none, if there are none)", EdgesOfBytesTest::noneTurned);
        S.test("Byte k of the WRITTEN bytes (into false) or BYTES", EdgesOfBytesTest::eitherByte);
        S.test("NONE if there is none.", EdgesOfBytesTest::noByte);
        S.end();
    }

    private static void call512() {
        SectorView view = new SectorView();
        for (int call = 1; call <= 510; call++) {
            view.giveBytes(call, 8);
        }
        S.due("call 511: lookAt(5)", view.lookAt(5), 4080);
        S.due("call 512: byteOf(4079, true)", view.byteOf(4079, true), 510 & 255);
    }

    private static void noMap() {
        SectorView view = new SectorView();
        for (int which : new int[] {0, 1, 2, 3, 9, 10}) {
            S.due("lookAt(" + which + ")", view.lookAt(which), -1);
        }
        S.due("lookAt(11)", view.lookAt(11), 0);
        S.due("lookAt(12)", view.lookAt(12), 0);
        S.due("saveMap()", view.saveMap(), -1);
    }

    private static void noBytes() {
        SectorView view = new SectorView();
        S.dueBytes("new", view);
        S.dueWritten("new", view);
        S.due("byteOf(0, true)", view.byteOf(0, true), -1);
        S.due("byteOf(0, false)", view.byteOf(0, false), -1);
        S.due("loadMap()", view.loadMap(), 1);
        S.due("its place", view.lookAt(8), 0);
    }

    private static void noRunAndNowhere() {
        SectorView view = new SectorView();
        S.due("lookAt(4)", view.lookAt(4), 0);
        S.due("dropInputs(1)", view.dropInputs(1), false);
        S.due("dropInputs(0)", view.dropInputs(0), true);
        S.dueWalker("nowhere", view, 100000, 100000, 100000, 100000, 100000, 100000);
    }

    private static void eachCount() {
        int[] eight = {0x81, 0x92, 0xA3, 0xB4, 0xC5, 0xD6, 0xE7, 0xF8};
        for (int n = 1; n <= 8; n++) {
            SectorView view = new SectorView();
            view.giveBytes(7, 1);
            S.due("giveBytes(.., " + n + ")", view.giveBytes(0x8192A3B4C5D6E7F8L, n), true);
            S.due("lookAt(5)", view.lookAt(5), 1 + n);
            S.due("the one ahead stays", view.byteOf(0, true), 7);
            for (int i = 0; i < n; i++) {
                S.due("byte " + i + " of " + n, view.byteOf(1 + i, true), eight[8 - n + i]);
            }
        }
        SectorView view = new SectorView();
        view.giveBytes(Long.MIN_VALUE, 8);
        view.giveBytes(-1, 3);
        view.giveBytes(0, 1);
        S.dueBytes("the least, -1 and 0", view, 128, 0, 0, 0, 0, 0, 0, 0, 255, 255, 255, 0);
    }

    private static void wrongCounts() {
        SectorView view = new SectorView();
        view.giveBytes(5, 1);
        for (int n : new int[] {0, -1, 9, 16, 257, LEAST, MOST, LEAST + 1}) {
            S.due("giveBytes(1, " + n + ")", view.giveBytes(1, n), false);
        }
        S.dueBytes("nothing came", view, 5);
    }

    // 512 calls can bring no more than 4096 bytes, so these objects are asked more than is promised.
    private static SectorView holding(int size) {
        SectorView view = new SectorView();
        for (int i = 0; i + 8 <= size; i += 8) {
            view.giveBytes(0x1111111111111111L, 8);
        }
        for (int i = size % 8; i > 0; i--) {
            view.giveBytes(0x22, 1);
        }
        return view;
    }

    private static void full() {
        SectorView view = holding(8184);
        S.due("8 more make 8192", view.giveBytes(0x0102030405060708L, 8), true);
        S.due("lookAt(5)", view.lookAt(5), 8192);
        S.due("the last one", view.byteOf(8191, true), 8);
        S.due("pokeByte(8191, 9)", view.pokeByte(8191, 9), true);
        S.due("the last one", view.byteOf(8191, true), 9);
        S.due("cutBytes(8192)", view.cutBytes(8192), true);
        for (int n = 1; n <= 8; n++) {
            SectorView other = holding(8192 - n);
            S.due(n + " have room", other.giveBytes(0x33, n), true);
            S.due("lookAt(5)", other.lookAt(5), 8192);
        }
    }

    private static void noRoom() {
        for (int n = 1; n <= 8; n++) {
            SectorView view = holding(8193 - n);
            S.due(n + " have no room", view.giveBytes(0x3333333333333333L, n), false);
            S.due("none of them came", view.lookAt(5), 8193 - n);
            S.due("none of them came", view.byteOf(8193 - n, true), -1);
            view.cutBytes(8192 - n);
            S.due("there is room again", view.giveBytes(0x44, n), true);
        }
    }

    private static void cut() {
        SectorView view = new SectorView();
        S.due("cutBytes(0) of none", view.cutBytes(0), true);
        view.giveBytes(0x0102030405L, 5);
        S.due("cutBytes(5) of 5", view.cutBytes(5), true);
        S.dueBytes("all stay", view, 1, 2, 3, 4, 5);
        S.due("cutBytes(4)", view.cutBytes(4), true);
        S.dueBytes("the last one went", view, 1, 2, 3, 4);
        S.due("byteOf(4, true)", view.byteOf(4, true), -1);
        S.due("pokeByte(4, 9)", view.pokeByte(4, 9), false);
        S.due("cutBytes(1)", view.cutBytes(1), true);
        view.giveBytes(9, 1);
        S.dueBytes("what is given comes behind the first ones", view, 1, 9);
        S.due("cutBytes(0)", view.cutBytes(0), true);
        S.dueBytes("none", view);
    }

    private static void wrongCuts() {
        SectorView view = new SectorView();
        S.due("cutBytes(1) of none", view.cutBytes(1), false);
        view.giveBytes(0x010203, 3);
        for (int n : new int[] {4, 8192, 8193, MOST, -1, -3, LEAST}) {
            S.due("cutBytes(" + n + ")", view.cutBytes(n), false);
        }
        S.dueBytes("all stay", view, 1, 2, 3);
        view.cutBytes(2);
        S.due("one that was cut does not come back", view.cutBytes(3), false);
    }

    private static void poked() {
        int[][] cases = {{0, 0}, {255, 255}, {256, 0}, {257, 1}, {-1, 255}, {-256, 0}, {LEAST, 0}, {MOST, 255}, {0x12345678, 0x78}};
        for (int[] c : cases) {
            SectorView view = new SectorView();
            view.giveBytes(0x070707, 3);
            S.due("pokeByte(0, " + c[0] + ")", view.pokeByte(0, c[0]), true);
            S.dueBytes("the first", view, c[1], 7, 7);
            S.due("pokeByte(2, " + c[0] + ")", view.pokeByte(2, c[0]), true);
            S.dueBytes("the last", view, c[1], 7, c[1]);
        }
    }

    private static void wrongPokes() {
        SectorView view = new SectorView();
        S.due("pokeByte(0, 1) of none", view.pokeByte(0, 1), false);
        view.giveBytes(0x0102, 2);
        for (int k : new int[] {-1, 2, 8191, 8192, LEAST, MOST}) {
            S.due("pokeByte(" + k + ", 9)", view.pokeByte(k, 9), false);
        }
        S.dueBytes("nothing changed", view, 1, 2);
    }

    private static void turned() {
        SectorView view = Give.withMap(Edges.least());
        int[] run = new RunMaker(0, 0, 0, 0).bytes();
        view.saveDemo();
        view.turnBytes();
        S.dueBytes("fewer than there were", view, run);
        S.dueWritten("which stay", view, run);
        view.pokeByte(0, 1);
        S.due("they are not one and the same", view.byteOf(0, false), 77);
        view.cutBytes(0);
        S.dueWritten("which stay", view, run);
        view.saveMap();
        view.turnBytes();
        S.dueBytes("more than there were", view, Edges.least().bytes());
        view.saveDemo();
        S.dueBytes("what is written later is nothing to them", view, Edges.least().bytes());
    }

    private static void noneTurned() {
        SectorView view = new SectorView();
        view.turnBytes();
        S.dueBytes("none were there", view);
        view.giveBytes(0x0102, 2);
        view.turnBytes();
        S.dueBytes("none are written", view);
        S.dueWritten("none are written", view);
    }

    private static SectorView written() {
        SectorView view = Give.withMap(Edges.least());
        view.saveMap();
        view.cutBytes(0);
        view.giveBytes(0xFF00FEL, 3);
        return view;
    }

    private static void eitherByte() {
        SectorView view = written();
        S.due("the first of the BYTES: 255 is no NONE", view.byteOf(0, true), 255);
        S.due("the last of the BYTES", view.byteOf(2, true), 254);
        S.due("the first WRITTEN one", view.byteOf(0, false), 77);
        int[] map = Edges.least().bytes();
        S.due("the last WRITTEN one", view.byteOf(map.length - 1, false), map[map.length - 1]);
        S.due("another WRITTEN one", view.byteOf(1, false), 72);
    }

    private static void noByte() {
        SectorView view = written();
        int size = Edges.least().bytes().length;
        for (int k : new int[] {-1, LEAST, MOST, 8192, size}) {
            S.due("byteOf(" + k + ", true)", view.byteOf(k, true), -1);
            S.due("byteOf(" + k + ", false)", view.byteOf(k, false), -1);
        }
        S.due("byteOf(3, true)", view.byteOf(3, true), -1);
        S.due("byteOf(3, false)", view.byteOf(3, false) == -1, false);
    }
}
