import java.io.IOException;
import java.io.UncheckedIOException;
import java.nio.file.Files;
import java.nio.file.Path;

/** Tests of single sentences of the document: each stands in it, has answers of its own, and none goes without. */
final class Sentences {
    private final String document = document();
    private final Checks checks = new Checks();
    private String words = "";
    private int asked;
    private int tested;

    /** The sentence in the document's words, and calls that answer otherwise if it does not hold. */
    void test(String sentence, Runnable calls) {
        words = sentence;
        asked = 0;
        try {
            calls.run();
        } catch (RuntimeException | StackOverflowError fault) {
            System.out.println(fault);
            due("a call threw", true, false);
        }
        checks.due("\"" + words + "\": answers are asked for", asked > 0, true);
        checks.due("\"" + words + "\": stands in the document", document.contains(words), true);
        tested++;
    }

    private static String document() {
        try {
            return Files.readString(Path.of("../shared/DOC.md")).replaceAll("\\s+", " ");
        } catch (IOException fault) {
            throw new UncheckedIOException(fault);
        }
    }

    void due(String call, long got, long want) {
        asked++;
        checks.due("\"" + words + "\": " + call, got, want);
    }

    void due(String call, boolean got, boolean want) {
        due(call, got ? 1 : 0, want ? 1 : 0);
    }

    /** The walker's x, y, ANGLE, SECTOR, EYE and TICKS, as many of them as are given. */
    void dueWalker(String what, SectorView view, int... walker) {
        for (int i = 0; i < walker.length; i++) {
            due(what + ": walkerOf(" + i + ")", view.walkerOf(i), walker[i]);
        }
    }

    /** A sector's FLOOR, CEILING, LIGHT, MOVER and where that goes, as many of them as are given. */
    void dueSector(String what, SectorView view, int sector, int... answers) {
        for (int i = 0; i < answers.length; i++) {
            due(what + ": sectorOf(" + sector + ", " + i + ")", view.sectorOf(sector, i), answers[i]);
        }
    }

    void dueWritten(String what, SectorView view, int... bytes) {
        due(what + ": lookAt(6)", view.lookAt(6), bytes.length);
        for (int i = 0; i < bytes.length; i++) {
            due(what + ": byteOf(" + i + ", false)", view.byteOf(i, false), bytes[i]);
        }
    }

    void dueBytes(String what, SectorView view, int... bytes) {
        due(what + ": lookAt(5)", view.lookAt(5), bytes.length);
        for (int i = 0; i < bytes.length; i++) {
            due(what + ": byteOf(" + i + ", true)", view.byteOf(i, true), bytes[i]);
        }
    }

    void end() {
        System.out.print(tested + " sentences, ");
        checks.end();
    }
}
