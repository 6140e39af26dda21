/** Promise 24: what lookAt tells, and when it changes. */
public final class LookTest {
    private static final Checks CHECKS = new Checks();

    public static void main(String[] args) {
        Corridor corridor = new Corridor().sector(0, 100, 9, 0, 0).sector(0, 40, 9, 0, 0).wall(50, 0, 1, 1, 0).solid(90, 1);
        int[] bytes = corridor.map.bytes();
        SectorView view = new SectorView();
        due("at first", view, -1, -1, -1, -1, 0, 0, 0, 0, -1, -1, -1, 0, 0);
        Give.bytes(view, 77, 72);
        due("two bytes", view, -1, -1, -1, -1, 0, 2, 0, 0, -1, -1, -1, 0, 0);
        view.loadMap();
        due("a fault", view, -1, -1, -1, -1, 0, 2, 0, 1, 2, -1, -1, 0, 0);
        view.loadDemo();
        due("another one", view, -1, -1, -1, -1, 0, 2, 0, 2, 1, -1, -1, 0, 0);
        Give.map(view, bytes);
        due("a map", view, 4, 1, 2, 2, 0, bytes.length, 0, 0, -1, 2, 2, 0, 1);
        view.addInput(5, 0, 0, true);
        view.addInput(5, 0, 0, true);
        due("two inputs", view, 4, 1, 2, 2, 2, bytes.length, 0, 0, -1, 2, 2, 0, 1);
        view.playTo(1);
        due("a door", view, 4, 1, 2, 2, 2, bytes.length, 0, 0, -1, 2, 2, 1, 1);
        view.saveDemo();
        due("saved", view, 4, 1, 2, 2, 2, bytes.length, 16, 0, -1, 2, 2, 1, 1);
        view.cutBytes(7);
        view.loadMap();
        due("a fault", view, 4, 1, 2, 2, 2, 7, 16, 1, 7, 2, 2, 1, 1);
        view.turnBytes();
        view.loadDemo();
        due("a run", view, 4, 1, 2, 2, 2, 16, 16, 0, -1, 2, 2, 0, 1);
        view.saveMap();
        view.turnBytes();
        view.loadMap();
        due("the map again", view, 4, 1, 2, 2, 0, bytes.length, bytes.length, 0, -1, 2, 2, 0, 2);
        for (int which : new int[] {13, -1, 100, Integer.MIN_VALUE, Integer.MAX_VALUE}) {
            CHECKS.due("lookAt(" + which + ")", view.lookAt(which), -1);
        }
        CHECKS.end();
    }

    private static void due(String what, SectorView view, int... answers) {
        for (int which = 0; which < answers.length; which++) {
            CHECKS.due(what + ": lookAt(" + which + ")", view.lookAt(which), answers[which]);
        }
    }
}
