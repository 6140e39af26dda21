import java.util.Arrays;

/** The boundary sentences of a run's bytes and its FAULTS, and of promises 6 and 8: loadDemo and saveDemo. */
public final class EdgesOfRunsTest {
    private static final Sentences S = new Sentences();

    public static void main(String[] args) {
        S.test("AN INPUT is an amount ahead and one aside, -64 .. 64 each, a turn, -16 .. 16, and whether it USES.",
            EdgesOfRunsTest::amounts);
        S.test("THE RUN has up to 1024 of them.", EdgesOfRunsTest::upTo1024);
        S.test("START: x, y, two bytes each, as above, ANGLE, SECTOR, a byte each", EdgesOfRunsTest::starts);
        S.test("then GROUPS, and a byte 0 behind the last one", EdgesOfRunsTest::endOfGroups);
        S.test("n as great as it can be, 63 at most", EdgesOfRunsTest::longestGroups);
        S.test("a byte, n + 64 if it USES + 128 if its aside and turn are not both 0", EdgesOfRunsTest::heads);
        S.test("a byte, ahead + 64; and, if not both are 0, a byte aside + 64 and a byte turn + 16", EdgesOfRunsTest::shortAndLong);
        S.test("a is a and that byte, modulo 65521, b is b and a, modulo 65521", EdgesOfRunsTest::checkModulo);
        S.test("it is 65536 * b + a, the highest byte first", EdgesOfRunsTest::checkBytes);
        S.test("FAULTS of a RUN, that which is seen first", EdgesOfRunsTest::seenFirst);
        S.test("1, 2 as above.", EdgesOfRunsTest::oneAndTwo);
        S.test("3: an ANGLE, an amount or a turn that can not be", EdgesOfRunsTest::numbers);
        S.test("aside and turn both 0 where they are written (the place of the turn)", EdgesOfRunsTest::bothNothing);
        S.test("a GROUP whose n is 0 (its place; a byte 0 is the end)", EdgesOfRunsTest::groupOfNone);
        S.test("4: a GROUP is the INPUT of the one ahead of it, which has not 63", EdgesOfRunsTest::sameInput);
        S.test("(its place; seen when all of it is read, behind 3)", EdgesOfRunsTest::sameInputSeen);
        S.test("5: more than 1024 INPUTS (the place of the GROUP; seen with its first byte).", EdgesOfRunsTest::tooMany);
        S.test("6: the CHECK (the place of its first byte that is another one).", EdgesOfRunsTest::check);
        S.test("7: bytes are left behind (the place of the first one).", EdgesOfRunsTest::leftBehind);
        S.test("8 (looked for when all else is right): there is no MAP, or no such SECTOR in it (8, both).", EdgesOfRunsTest::eight);
        S.test("THE RUN and START are those, the walker is at START, and all that moves is as THE MAP says (TICKS is 0, no INPUT is done",
            EdgesOfRunsTest::loading);
        S.test("THE MAP's own START stays for saveMap()", EdgesOfRunsTest::mapStartStays);
        S.test("THE RUN's bytes, with START, likewise.", EdgesOfRunsTest::saving);
        S.end();
    }

    private static RunMaker run() {
        return new RunMaker(0, 0, 0, 0);
    }

    private static void due(String what, int[] bytes, int fault, int place) {
        Edges.dueRun(S, what, bytes, fault, place);
    }

    private static SectorView withLeastMap() {
        return Give.withMap(Edges.least());
    }

    private static void amounts() {
        int[][] edges = {{64, 0, 0, 128, 64, 16}, {-64, 0, 0, 0, 64, 16}, {0, 64, 0, 64, 128, 16}, {0, -64, 0, 64, 0, 16},
            {0, 0, 16, 64, 64, 32}, {0, 0, -16, 64, 64, 0}, {64, 64, 16, 128, 128, 32}, {-64, -64, -16, 0, 0, 0}, {0, 0, 0, 64, 64, 16}};
        for (int[] e : edges) {
            boolean whole = e[1] != 0 || e[2] != 0;
            int[] bytes = (whole ? run().raw(129, e[3], e[4], e[5]) : run().raw(1, e[3])).bytes();
            SectorView view = withLeastMap();
            S.due(Arrays.toString(e) + ": loadDemo()", Give.run(view, bytes), 0);
            view.playTo(1);
            S.due("the turn", view.walkerOf(2), Math.floorMod(e[2], 64));
            SectorView other = withLeastMap();
            other.stepBy(e[0], e[1], e[2], false);
            S.dueWalker("as by a step", view, other.walkerOf(0), other.walkerOf(1), other.walkerOf(2));
            S.due("addInput", other.addInput(e[0], e[1], e[2], false), 1);
            other.saveDemo();
            S.dueWritten(Arrays.toString(e), other, bytes);
        }
        SectorView view = withLeastMap();
        Give.run(view, run().raw(1, 128, 1, 0).bytes());
        view.playTo(1);
        S.dueWalker("64 ahead", view, 64, 0);
        view.playTo(2);
        S.dueWalker("and 64 back", view, 0, 0);
    }

    private static RunMaker many(int last) {
        RunMaker run = run();
        for (int i = 0; i < 16; i++) {
            run.group(63, 1 + i % 2, 0, 0, false);
        }
        return last == 0 ? run : run.group(last, 9, 0, 0, false);
    }

    private static void upTo1024() {
        due("1023", many(15).bytes(), 0, -1);
        due("1024", many(16).bytes(), 0, -1);
        due("1025", many(17).bytes(), 5, 9 + 32);
        SectorView view = withLeastMap();
        Give.run(view, many(16).bytes());
        S.due("lookAt(4)", view.lookAt(4), 1024);
        S.due("addInput", view.addInput(0, 0, 0, false), -1);
        S.due("playTo(1024)", view.playTo(1024), 0);
        S.due("TICKS", view.walkerOf(5), 1024);
        S.due("the last one's way", view.walkerOf(0), 8 * 63 * 3 + 16 * 9);
    }

    private static void starts() {
        int[][] bytes = {{128, 0, 127, 255, 63, 1, -32768, 32767}, {127, 255, 128, 0, 0, 0, 32767, -32768}, {255, 255, 1, 0, 1, 1, -1, 256}};
        for (int[] b : bytes) {
            SectorView view = new SectorView();
            Give.map(view, Edges.known());
            int[] body = {77, 68, 1, b[0], b[1], b[2], b[3], b[4], b[5], 0};
            S.due("loadDemo()", Give.run(view, RunMaker.checked(body)), 0);
            S.dueWalker("START", view, b[6], b[7], b[4], b[5]);
            view.saveDemo();
            S.dueWritten("START", view, RunMaker.checked(body));
        }
    }

    private static void endOfGroups() {
        due("no group", run().bytes(), 0, -1);
        int[] one = run().raw(1, 70).bytes();
        due("one", one, 0, -1);
        due("the 0 is to be read", Edges.first(11, one), 1, 11);
        SectorView view = withLeastMap();
        S.due("saveDemo() of an empty run", view.saveDemo(), 14);
        S.due("the byte 0", view.byteOf(9, false), 0);
    }

    private static void longestGroups() {
        int[][] counts = {{1, 1}, {62, 62}, {63, 63}, {64, 63, 1}, {125, 63, 62}, {126, 63, 63}, {127, 63, 63, 1}};
        for (int[] c : counts) {
            SectorView view = withLeastMap();
            RunMaker want = run();
            for (int i = 0; i < c[0]; i++) {
                view.addInput(3, 0, 0, true);
            }
            for (int i = 1; i < c.length; i++) {
                want.raw(64 + c[i], 67);
            }
            view.saveDemo();
            S.dueWritten(c[0] + " of one", view, want.bytes());
        }
        SectorView view = withLeastMap();
        for (int i = 0; i < 64; i++) {
            view.addInput(i < 62 ? 3 : 4, 0, 0, true);
        }
        view.saveDemo();
        S.dueWritten("62 of one, 2 of another", view, run().raw(64 + 62, 67, 64 + 2, 68).bytes());
    }

    private static void heads() {
        int[][] cases = {{0, 0, 0, 1}, {0, 0, 1, 65}, {5, 0, 0, 129}, {0, 5, 0, 129}, {-5, 5, 0, 129}, {5, 0, 1, 193}, {0, -5, 1, 193}};
        for (int[] c : cases) {
            SectorView view = withLeastMap();
            view.addInput(9, c[0], c[1], c[2] == 1);
            view.saveDemo();
            boolean whole = c[3] >= 128;
            RunMaker want = whole ? run().raw(c[3], 73, 64 + c[0], 16 + c[1]) : run().raw(c[3], 73);
            S.dueWritten(Arrays.toString(c), view, want.bytes());
            due(Arrays.toString(c), want.bytes(), 0, -1);
        }
    }

    private static void shortAndLong() {
        int[][] cases = {{-64, 0, 0}, {64, 0, 0}, {0, 1, 0}, {0, -1, 0}, {0, 0, 1}, {0, 0, -1}, {64, -64, 16}, {-64, 64, -16}};
        for (int[] c : cases) {
            SectorView view = withLeastMap();
            view.addInput(c[0], c[1], c[2], false);
            boolean whole = c[1] != 0 || c[2] != 0;
            S.due(Arrays.toString(c) + ": saveDemo()", view.saveDemo(), whole ? 18 : 16);
            S.due("ahead", view.byteOf(10, false), c[0] + 64);
            S.due("aside, or the end", view.byteOf(11, false), whole ? c[1] + 64 : 0);
            if (whole) {
                S.due("turn", view.byteOf(12, false), c[2] + 16);
                S.due("the end", view.byteOf(13, false), 0);
            }
        }
    }

    /** A run of alternating long groups, with a last one such that all bytes ahead of the check have this sum. */
    private static int[] bytesOfSum(int sum) {
        RunMaker run = new RunMaker(-1, -1, 63, 0);
        int left = sum - (77 + 68 + 1 + 4 * 255 + 63);
        for (int i = 0; left >= 481 + 400; i++) {
            run.raw(193, 128 - i % 2, 128, 32);
            left -= 481 - i % 2;
        }
        // Three groups at the end, unlike one another and any ahead of them, share what is left.
        for (int turn = 0; turn < 3; turn++) {
            int share = left / (3 - turn);
            int ahead = Math.min(128, share - 129 - turn);
            run.raw(129, ahead, share - 129 - turn - ahead, turn);
            left -= share;
        }
        return run.bytes();
    }

    private static void checkModulo() {
        for (int a = 65518; a <= 65524; a++) {
            int[] bytes = bytesOfSum(a - 1);
            int low = a % 65521;
            S.due("the sum is made as it is meant", bytes[bytes.length - 2] * 256 + bytes[bytes.length - 1], low);
            due("a comes to " + a, bytes, 0, -1);
            SectorView view = withLeastMap();
            Give.run(view, bytes);
            view.saveDemo();
            S.dueWritten("a comes to " + a, view, bytes);
            int end = bytes.length - 2;
            due("not modulo 65536", Edges.with(Edges.with(bytes, end, a >> 8), end + 1, a & 255), a < 65521 ? 0 : 6, end);
        }
    }

    private static void checkBytes() {
        int[] bytes = run().bytes();
        long a = 1 + 77 + 68 + 1;
        long b = 78 + 146 + 7 * 147 + 147;
        int[] check = {(int) b >> 8, (int) b & 255, (int) a >> 8, (int) a & 255};
        for (int i = 0; i < 4; i++) {
            S.due("byte " + i, bytes[10 + i], check[i]);
        }
        SectorView view = withLeastMap();
        view.saveDemo();
        S.dueWritten("by hand", view, 77, 68, 1, 0, 0, 0, 0, 0, 0, 0, check[0], check[1], check[2], check[3]);
    }

    private static void seenFirst() {
        due("2 ahead of 3", Edges.with(Edges.with(run().bytes(), 1, 72), 7, 64), 2, 1);
        due("3 ahead of 1", Edges.first(8, Edges.with(run().bytes(), 7, 64)), 3, 7);
        due("3 ahead of 6", Edges.with(run().raw(1, 70).bytes(), 10, 129), 3, 10);
        due("the first 3 of two", run().raw(1, 129, 1, 130).bytes(), 3, 10);
        due("4 ahead of 5", run().raw(1, 70, 1, 70).raw(many(0).bytes()).bytes(), 4, 11);
        due("4 ahead of 6", Edges.with(run().raw(1, 70, 1, 70).bytes(), 14, 255), 4, 11);
        due("5 ahead of 3: its amount is not read", many(0).raw(63, 200).bytes(), 5, 41);
        due("5 ahead of 4", many(16).raw(1, 73).bytes(), 5, 43);
        int[] bytes = run().raw(1, 70).bytes();
        due("6 ahead of 7", Edges.first(bytes.length + 1, Edges.with(bytes, bytes.length - 1, 255)), 6, bytes.length - 1);
        due("6 ahead of 1: the first byte of four is another one", Edges.first(13, Edges.with(bytes, 12, 255)), 6, 12);
        due("1 ahead of 6: it is not there", Edges.first(12, bytes), 1, 12);
        due("7 ahead of 8", Edges.first(15, new RunMaker(0, 0, 0, 200).bytes()), 7, 14);
        due("6 ahead of 8", Edges.with(new RunMaker(0, 0, 0, 200).bytes(), 13, 255), 6, 13);
    }

    private static void oneAndTwo() {
        int[] bytes = run().raw(129, 1, 2, 3, 65, 70).bytes();
        for (int n = 0; n < bytes.length; n++) {
            due("the first " + n, Edges.first(n, bytes), 1, n);
        }
        due("all", bytes, 0, -1);
        int[] right = {77, 68, 1};
        for (int place = 0; place < 3; place++) {
            for (int b : new int[] {right[place] - 1, right[place] + 1, 255}) {
                due("byte " + place + " is " + b, Edges.with(bytes, place, b), 2, place);
            }
        }
        due("a map", Edges.known(), 2, 1);
    }

    private static void numbers() {
        due("an ANGLE of 63", new RunMaker(0, 0, 63, 0).bytes(), 0, -1);
        due("an ANGLE of 64", new RunMaker(0, 0, 64, 0).bytes(), 3, 7);
        due("an ANGLE of 255", new RunMaker(0, 0, 255, 0).bytes(), 3, 7);
        for (int over : new int[] {129, 200, 255}) {
            due("ahead", run().raw(1, over).bytes(), 3, 10);
            due("ahead, with an aside", run().raw(129, over, 1, 1).bytes(), 3, 10);
            due("aside", run().raw(129, 0, over, 0).bytes(), 3, 11);
        }
        for (int over : new int[] {33, 64, 255}) {
            due("turn", run().raw(129, 0, 0, over).bytes(), 3, 12);
        }
        due("in a later group", run().raw(1, 5, 129, 0, 0, 33).bytes(), 3, 14);
        due("the most of each", run().raw(129, 128, 128, 32).bytes(), 0, -1);
        due("the least of each", run().raw(129, 0, 0, 0).bytes(), 0, -1);
    }

    private static void bothNothing() {
        due("both 0", run().raw(129, 70, 64, 16).bytes(), 3, 12);
        due("with a use", run().raw(193, 70, 64, 16).bytes(), 3, 12);
        due("aside not", run().raw(129, 70, 65, 16).bytes(), 0, -1);
        due("turn not", run().raw(129, 70, 64, 15).bytes(), 0, -1);
        due("seen with the turn, not ahead of it", Edges.first(12, run().raw(129, 70, 64, 16).bytes()), 1, 12);
    }

    private static void groupOfNone() {
        for (int head : new int[] {64, 128, 192}) {
            due("head " + head, run().raw(head, 70, 65, 17).bytes(), 3, 9);
            due("head " + head + " behind another", run().raw(5, 70, head, 70, 65, 17).bytes(), 3, 11);
            due("seen at once", Edges.first(10, run().raw(head).bytes()), 3, 9);
        }
        due("a byte 0 is the end", run().bytes(), 0, -1);
        due("what looks like a group behind it is the check", run().raw(0, 70).bytes(), 6, 10);
    }

    private static void sameInput() {
        due("1, 1", run().raw(1, 70, 1, 70).bytes(), 4, 11);
        due("62, 1", run().raw(62, 70, 1, 70).bytes(), 4, 11);
        due("63, 1", run().raw(63, 70, 1, 70).bytes(), 0, -1);
        due("63, 63, 1", run().raw(63, 70, 63, 70, 1, 70).bytes(), 0, -1);
        due("63, 62, 1", run().raw(63, 70, 62, 70, 1, 70).bytes(), 4, 13);
        due("1, 63", run().raw(1, 70, 63, 70).bytes(), 4, 11);
        due("with aside and turn", run().raw(190, 70, 1, 1, 129, 70, 1, 1).bytes(), 4, 13);
        due("another ahead", run().raw(1, 70, 1, 71).bytes(), 0, -1);
        due("another aside", run().raw(129, 70, 1, 1, 129, 70, 2, 1).bytes(), 0, -1);
        due("another turn", run().raw(129, 70, 1, 1, 129, 70, 1, 2).bytes(), 0, -1);
        due("another use", run().raw(1, 70, 65, 70).bytes(), 0, -1);
        due("not the one ahead of it", run().raw(1, 70, 1, 71, 1, 70).bytes(), 0, -1);
        due("nothing ahead of it", run().raw(1, 64).bytes(), 0, -1);
    }

    private static void sameInputSeen() {
        due("its place", run().raw(1, 71, 5, 70, 1, 70).bytes(), 4, 13);
        due("1 first", Edges.first(12, run().raw(5, 70, 1, 70).bytes()), 1, 12);
        due("1 first", Edges.first(16, run().raw(133, 70, 1, 1, 129, 70, 1, 1).bytes()), 1, 16);
        due("3 first", run().raw(133, 70, 1, 1, 129, 70, 1, 33).bytes(), 3, 16);
        due("3 first: written though both 0", run().raw(5, 70, 129, 70, 64, 16).bytes(), 3, 14);
        due("then 4, though nothing is behind it", Edges.first(13, run().raw(5, 70, 1, 70).bytes()), 4, 11);
    }

    private static void tooMany() {
        due("1 and 63 more than 1008", many(0).raw(17, 73).bytes(), 5, 41);
        due("63", many(0).raw(63, 73).bytes(), 5, 41);
        due("seen with its first byte", Edges.first(42, many(0).raw(17).bytes()), 5, 41);
        due("one more behind 1024", many(16).raw(1, 99).bytes(), 5, 43);
        due("the end behind 1024", many(16).bytes(), 0, -1);
        due("a group of none behind 1024", many(16).raw(64, 99).bytes(), 3, 43);
        RunMaker ones = run();
        for (int i = 0; i < 1024; i++) {
            ones.raw(1, i % 2);
        }
        due("1024 groups", ones.bytes(), 0, -1);
        due("1025 groups", ones.raw(1, 5).bytes(), 5, 9 + 2048);
    }

    private static void check() {
        int[] bytes = run().raw(5, 70).bytes();
        for (int i = 0; i < 4; i++) {
            due("byte " + i, Edges.with(bytes, 12 + i, bytes[12 + i] ^ 1), 6, 12 + i);
            due("byte " + i + " and the last", Edges.with(Edges.with(bytes, 15, 255), 12 + i, bytes[12 + i] ^ 128), 6, 12 + i);
            due("byte " + i + " is not there", Edges.first(12 + i, bytes), 1, 12 + i);
        }
        due("a byte that it is of", Edges.with(bytes, 3, 1), 6, 13);
    }

    private static void leftBehind() {
        int[] bytes = run().raw(5, 70).bytes();
        due("one", Edges.first(bytes.length + 1, bytes), 7, bytes.length);
        due("many", Edges.first(bytes.length + 70, bytes), 7, bytes.length);
        int[] empty = run().bytes();
        due("one behind an empty run", Edges.first(empty.length + 1, empty), 7, empty.length);
    }

    private static void eight() {
        due("the last SECTOR", new RunMaker(0, 0, 0, 1).bytes(), 0, -1);
        due("one more", new RunMaker(0, 0, 0, 2).bytes(), 8, 8);
        due("255", new RunMaker(0, 0, 0, 255).bytes(), 8, 8);
        SectorView view = new SectorView();
        S.due("no MAP", Give.run(view, run().bytes()), 8);
        S.due("lookAt(8)", view.lookAt(8), 8);
        S.due("no MAP: 1 is seen first", Give.run(view), 1);
        S.due("no MAP: 6 is seen first", Give.run(view, Edges.with(run().bytes(), 13, 255)), 6);
        S.due("no MAP: 7 is seen first", Give.run(view, Edges.first(15, run().bytes())), 7);
        S.due("no MAP: THE RUN is empty", view.lookAt(4), 0);
        due("3 is seen first", new RunMaker(0, 0, 64, 2).bytes(), 3, 7);
    }

    private static void loading() {
        SectorView view = new Corridor().sector(0, 100, 9, 0, 0).sector(0, 40, 9, 0, 0).wall(50, 0, 1, 1, 0).view();
        view.addInput(1, 1, 1, true);
        view.addInput(1, 1, 1, true);
        view.addInput(1, 1, 1, true);
        view.stepBy(0, 0, 0, true);
        S.dueSector("a door goes", view, 1, 0, 48, 9, 0, 1);
        S.due("loadDemo()", Give.run(view, new RunMaker(7, 8, 9, 1).raw(2, 70).bytes()), 0);
        S.due("THE RUN", view.lookAt(4), 2);
        S.dueWalker("START", view, 7, 8, 9, 1, 41, 0);
        S.dueSector("nothing moves", view, 1, 0, 40, 9, -1, 0);
        S.due("lookAt(11)", view.lookAt(11), 0);
        view.stepBy(0, 0, 1, false);
        view.playTo(0);
        S.dueWalker("START is the run's", view, 7, 8, 9, 1, 41, 0);
        S.due("loadDemo() of an empty run", Give.run(view, run().bytes()), 0);
        S.due("THE RUN is empty", view.lookAt(4), 0);
        S.due("playTo(1)", view.playTo(1), -1);
    }

    private static void mapStartStays() {
        SectorView view = new SectorView();
        Give.map(view, Edges.known());
        Give.run(view, new RunMaker(7, 8, 9, 0).bytes());
        view.saveMap();
        S.dueWritten("saveMap()", view, Edges.known());
        view.turnBytes();
        view.loadMap();
        S.dueWalker("the map's own", view, 30, -30, 63, 1);
    }

    private static void saving() {
        SectorView view = new SectorView();
        S.due("saveDemo() without a MAP", view.saveDemo(), -1);
        S.dueWritten("without a MAP", view);
        Give.map(view, Edges.known());
        S.due("saveDemo()", view.saveDemo(), 14);
        S.dueWritten("the map's START", view, new RunMaker(30, -30, 63, 1).bytes());
        view.startAt(-32768, 32767, 0, 0);
        S.due("saveDemo()", view.saveDemo(), 14);
        S.dueWritten("the START that startAt() made", view, new RunMaker(-32768, 32767, 0, 0).bytes());
        view.stepBy(64, 0, 0, false);
        view.addInput(1, 0, 0, false);
        view.addInput(2, 0, 0, false);
        view.dropInputs(1);
        S.due("saveDemo()", view.saveDemo(), 16);
        S.dueWritten("what was dropped is gone", view, new RunMaker(-32768, 32767, 0, 0).raw(1, 65).bytes());
    }
}
