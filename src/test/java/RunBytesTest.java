import java.util.Arrays;

/** Promises 6 and 8: runs from bytes and back, and the faults of a run with their places. */
public final class RunBytesTest {
    private static final Checks CHECKS = new Checks();

    public static void main(String[] args) {
        saving();
        loading();
        groupsOf63();
        cutShort();
        numbers();
        sameGroups();
        tooMany();
        checks();
        noMap();
        faultsChangeNothing();
        CHECKS.end();
    }

    private static MapMaker map() {
        return new MapMaker().texture(0, 0, 5).sector(0, 100, 0, 0, 9, 0, 0).sector(10, 100, 0, 0, 9, 0, 0).start(1, 2, 3, 0);
    }

    private static RunMaker sample() {
        return new RunMaker(-300, 32767, 63, 1).group(2, 64, 0, 0, false).group(1, 64, 0, 0, true)
            .group(63, -64, 64, -16, true).group(3, 0, 0, 16, false).group(1, 0, -64, 0, false);
    }

    private static void due(String what, int[] bytes, int fault, int place) {
        SectorView view = Give.withMap(map());
        CHECKS.due(what + ": loadDemo()", Give.run(view, bytes), fault);
        CHECKS.due(what + ": lookAt(7)", view.lookAt(7), fault);
        CHECKS.due(what + ": lookAt(8)", view.lookAt(8), fault == 0 ? -1 : place);
        CHECKS.due(what + ": the walker is where it was", view.walkerOf(1) == 2, fault != 0);
    }

    private static void saving() {
        SectorView view = Give.withMap(map());
        CHECKS.due("saveDemo of an empty run", view.saveDemo(), 14);
        Give.dueWritten(CHECKS, "an empty run", view, new RunMaker(1, 2, 3, 0).bytes());
        view.startAt(-300, 32767, 63, 1);
        int[][] inputs = {{64, 0, 0, 0}, {64, 0, 0, 0}, {64, 0, 0, 1}};
        for (int[] i : inputs) {
            view.addInput(i[0], i[1], i[2], i[3] == 1);
        }
        for (int i = 0; i < 63; i++) {
            view.addInput(-64, 64, -16, true);
        }
        for (int i = 0; i < 3; i++) {
            view.addInput(0, 0, 16, false);
        }
        view.addInput(0, -64, 0, false);
        int[] want = sample().bytes();
        CHECKS.due("saveDemo", view.saveDemo(), want.length);
        Give.dueWritten(CHECKS, "a run", view, want);
        view.stepBy(64, 0, 5, false);
        CHECKS.due("a step is none of the run", view.saveDemo(), want.length);
        Give.dueWritten(CHECKS, "a run", view, want);
        int[] known = {77, 68, 1, 0xFE, 0xD4, 0x7F, 0xFF, 63, 1, 2, 128, 65, 128, 255, 0, 128, 0, 131, 64, 64, 32, 129, 64, 0, 16, 0};
        for (int i = 0; i < known.length; i++) {
            CHECKS.due("byteOf(" + i + ", false)", view.byteOf(i, false), known[i]);
        }
    }

    private static void loading() {
        SectorView view = Give.withMap(map());
        view.addInput(1, 1, 1, true);
        view.stepBy(0, 0, 1, false);
        int[] bytes = sample().bytes();
        CHECKS.due("loadDemo", Give.run(view, bytes), 0);
        CHECKS.due("lookAt(4)", view.lookAt(4), 70);
        int[] walker = {-300, 32767, 63, 1, 51, 0};
        for (int what = 0; what < walker.length; what++) {
            CHECKS.due("walkerOf(" + what + ")", view.walkerOf(what), walker[what]);
        }
        CHECKS.due("saveDemo", view.saveDemo(), bytes.length);
        Give.dueWritten(CHECKS, "what was read", view, bytes);
        CHECKS.due("saveMap", view.saveMap(), map().bytes().length);
        Give.dueWritten(CHECKS, "the map with its own start", view, map().bytes());
        CHECKS.due("MAPS that were read", view.lookAt(12), 1);
        view.playTo(70);
        CHECKS.due("ticks", view.walkerOf(5), 70);
        view.playTo(0);
        CHECKS.due("the run's start", view.walkerOf(0), -300);
        CHECKS.due("again", Give.run(view, bytes), 0);
        CHECKS.due("once more", Give.run(view, bytes), 0);
        CHECKS.due("lookAt(4)", view.lookAt(4), 70);
        view.saveDemo();
        Give.dueWritten(CHECKS, "nothing is left of the old ones", view, bytes);
        due("nothing but a start", new RunMaker(0, 0, 0, 0).bytes(), 0, -1);
    }

    private static void groupsOf63() {
        SectorView view = Give.withMap(map());
        for (int i = 0; i < 130; i++) {
            view.addInput(5, 0, 0, false);
        }
        int[] want = new RunMaker(1, 2, 3, 0).group(63, 5, 0, 0, false).group(63, 5, 0, 0, false).group(4, 5, 0, 0, false).bytes();
        CHECKS.due("saveDemo", view.saveDemo(), want.length);
        Give.dueWritten(CHECKS, "130 of one", view, want);
        view.turnBytes();
        CHECKS.due("loadDemo", view.loadDemo(), 0);
        CHECKS.due("lookAt(4)", view.lookAt(4), 130);
        view.dropInputs(4);
        CHECKS.due("126 of one", view.saveDemo(), 18);
    }

    private static void cutShort() {
        int[] bytes = sample().bytes();
        for (int n = 0; n < bytes.length; n++) {
            due("the first " + n + " bytes", Arrays.copyOf(bytes, n), 1, n);
        }
        due("one more", Arrays.copyOf(bytes, bytes.length + 1), 7, bytes.length);
    }

    private static void changed(String what, int place, int b, int fault, int faultPlace) {
        int[] bytes = sample().bytes();
        int[] body = Arrays.copyOf(bytes, bytes.length - 4);
        body[place] = b;
        due(what, RunMaker.checked(body), fault, faultPlace);
    }

    private static void numbers() {
        changed("76", 0, 76, 2, 0);
        changed("a map", 1, 72, 2, 1);
        changed("2", 2, 2, 2, 2);
        changed("an angle of 64", 7, 64, 3, 7);
        changed("no such sector", 8, 2, 8, 8);
        changed("no such sector", 8, 255, 8, 8);
        changed("a group of none", 9, 64, 3, 9);
        changed("a group of none", 9, 128, 3, 9);
        changed("a group of none", 9, 192, 3, 9);
        changed("ahead of 65", 10, 129, 3, 10);
        changed("aside of 65", 15, 129, 3, 15);
        changed("a turn of 17", 16, 33, 3, 16);
        changed("a turn of 0 with an aside", 16, 16, 0, -1);
        changed("no aside and no turn", 20, 16, 3, 20);
        due("ahead is to be read", Arrays.copyOf(new RunMaker(0, 0, 0, 0).raw(130).bytes(), 10), 1, 10);
        due("seen at once", new int[] {77, 68, 1, 0, 0, 0, 0, 70}, 3, 7);
        due("a group of none is seen at once", Arrays.copyOf(new RunMaker(0, 0, 0, 0).raw(192).bytes(), 10), 3, 9);
    }

    private static void sameGroups() {
        due("63 and more", new RunMaker(0, 0, 0, 0).group(63, 1, 0, 0, true).group(63, 1, 0, 0, true).group(1, 1, 0, 0, true).bytes(), 0, -1);
        due("62 and more", new RunMaker(0, 0, 0, 0).group(62, 1, 0, 0, true).group(1, 1, 0, 0, true).bytes(), 4, 11);
        due("1 and 1", new RunMaker(0, 0, 0, 0).group(1, 1, 0, 0, true).group(1, 1, 0, 0, true).bytes(), 4, 11);
        due("behind one of 63", new RunMaker(0, 0, 0, 0).group(63, 1, 2, 0, true).group(5, 1, 2, 0, true).group(5, 1, 2, 0, true).bytes(), 4, 17);
        due("one that uses, one that does not", new RunMaker(0, 0, 0, 0).group(5, 1, 0, 0, true).group(5, 1, 0, 0, false).bytes(), 0, -1);
        due("not next to it", new RunMaker(0, 0, 0, 0).group(5, 1, 0, 0, true).group(5, 2, 0, 0, true).group(5, 1, 0, 0, true).bytes(), 0, -1);
        due("all of it is read first", Arrays.copyOf(new RunMaker(0, 0, 0, 0).group(2, 1, 1, 1, true).group(1, 1, 1, 1, true).bytes(), 16), 1, 16);
        due("3 is seen first", new RunMaker(0, 0, 0, 0).group(2, 1, 0, 0, true).raw(129, 65, 64, 16).bytes(), 3, 14);
    }

    private static RunMaker manyInputs(int more) {
        RunMaker run = new RunMaker(0, 0, 0, 0);
        for (int i = 0; i < 16; i++) {
            run.group(63, i % 2, 0, 0, false);
        }
        return run.group(16 + more, 5, 0, 0, false);
    }

    private static void tooMany() {
        due("1024 inputs", manyInputs(0).bytes(), 0, -1);
        due("1025 inputs", manyInputs(1).bytes(), 5, 41);
        due("seen with the group's first byte", Arrays.copyOf(manyInputs(1).bytes(), 42), 5, 41);
        due("one more group", manyInputs(0).group(1, 6, 0, 0, false).bytes(), 5, 43);
        due("ahead of 4", manyInputs(0).group(1, 5, 0, 0, false).bytes(), 5, 43);
        RunMaker ones = new RunMaker(0, 0, 0, 0);
        for (int i = 0; i < 1024; i++) {
            ones.group(1, i % 2, 1, 0, false);
        }
        due("1024 groups", ones.bytes(), 0, -1);
        due("1025 groups", ones.group(1, 0, 1, 0, false).bytes(), 5, 9 + 4096);
        SectorView view = Give.withMap(map());
        Give.run(view, manyInputs(0).bytes());
        CHECKS.due("lookAt(4)", view.lookAt(4), 1024);
        CHECKS.due("no more", view.addInput(0, 0, 0, false), -1);
        CHECKS.due("saveDemo", view.saveDemo(), manyInputs(0).bytes().length);
        Give.dueWritten(CHECKS, "1024 inputs", view, manyInputs(0).bytes());
    }

    private static void checks() {
        int[] bytes = sample().bytes();
        for (int i = 1; i <= 4; i++) {
            int[] other = bytes.clone();
            other[bytes.length - i] ^= 0x80;
            due("the check's byte " + (4 - i), other, 6, bytes.length - i);
        }
        int[] start = bytes.clone();
        start[3] ^= 1;
        CHECKS.due("another byte", Give.run(Give.withMap(map()), start), 6);
    }

    private static void noMap() {
        SectorView view = new SectorView();
        CHECKS.due("loadDemo without a map", Give.run(view, sample().bytes()), 8);
        CHECKS.due("lookAt(8)", view.lookAt(8), 8);
        CHECKS.due("lookAt(4)", view.lookAt(4), 0);
        CHECKS.due("another fault is seen first", Give.run(view, 77, 68, 1), 1);
        int[] more = Arrays.copyOf(sample().bytes(), sample().bytes().length + 1);
        CHECKS.due("so are bytes left behind", Give.run(view, more), 7);
    }

    private static void faultsChangeNothing() {
        SectorView view = Give.withMap(map());
        Give.run(view, sample().bytes());
        view.stepBy(10, 0, 4, false);
        int x = view.walkerOf(0);
        int[] other = new RunMaker(5, 5, 5, 0).group(7, 1, 0, 0, false).bytes();
        other[other.length - 1] ^= 1;
        CHECKS.due("a fault", Give.run(view, other), 6);
        CHECKS.due("lookAt(4)", view.lookAt(4), 70);
        CHECKS.due("walkerOf(0)", view.walkerOf(0), x);
        CHECKS.due("walkerOf(5)", view.walkerOf(5), 1);
        view.saveDemo();
        Give.dueWritten(CHECKS, "the old run", view, sample().bytes());
        view.playTo(0);
        CHECKS.due("the old start", view.walkerOf(0), -300);
    }
}
