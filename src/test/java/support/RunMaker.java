import java.util.ArrayList;
import java.util.Arrays;
import java.util.List;
import java.util.zip.Adler32;

/** Puts a run's bytes together; the check is the library's Adler-32, which is the document's sum. */
final class RunMaker {
    private final List<Integer> body = new ArrayList<>();

    RunMaker(int x, int y, int angle, int sector) {
        MapMaker.addAll(body, 77, 68, 1);
        MapMaker.addPair(body, x);
        MapMaker.addPair(body, y);
        MapMaker.addAll(body, angle, sector);
    }

    RunMaker raw(int... bytes) {
        MapMaker.addAll(body, bytes);
        return this;
    }

    /** A group in its shortest form. */
    RunMaker group(int times, int ahead, int aside, int turn, boolean uses) {
        boolean whole = aside != 0 || turn != 0;
        raw(times + (uses ? 64 : 0) + (whole ? 128 : 0), ahead + 64);
        return whole ? raw(aside + 64, turn + 16) : this;
    }

    int size() {
        return body.size();
    }

    int[] bytes() {
        List<Integer> all = new ArrayList<>(body);
        all.add(0);
        return checked(MapMaker.toRow(all));
    }

    static int[] checked(int[] bytes) {
        Adler32 sum = new Adler32();
        for (int b : bytes) {
            sum.update(b);
        }
        long v = sum.getValue();
        int[] all = Arrays.copyOf(bytes, bytes.length + 4);
        for (int i = 0; i < 4; i++) {
            all[bytes.length + i] = (int) (v >> 24 - 8 * i) & 255;
        }
        return all;
    }
}
