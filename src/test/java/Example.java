public final class Example {
    public static void main(String[] args) {
        int[] map = {
            77, 72, 1, 4, 1, 1, 4,                 // a map of 4 vertices, 1 texture, 1 sector and 4 walls
            255, 156, 255, 156, 255, 156, 0, 100,  // (-100, -100), (-100, 100),
            0, 100, 0, 100, 0, 100, 255, 156,      // (100, 100), (100, -100)
            1, 1, 3, 12, 12, 3,                    // 2 by 2 texels
            0, 0, 0, 128, 0, 255, 15, 0, 0,        // floor 0, ceiling 128, texture 0 below, sky above, light 15
            0, 1, 0, 255, 255, 0, 255, 255, 255, 255, 0, 0, 0, 0, // walls: the front is on the right on the way from A to B
            1, 2, 0, 255, 255, 0, 255, 255, 255, 255, 0, 0, 0, 0,
            2, 3, 0, 255, 255, 0, 255, 255, 255, 255, 0, 0, 0, 0,
            3, 0, 0, 255, 255, 0, 255, 255, 255, 255, 0, 0, 0, 0,
            0, 0, 0, 0, 0, 0};                     // START: x 0, y 0, ANGLE 0, SECTOR 0

        SectorView view = new SectorView();
        int sum = 0;
        int sums = 0;
        for (int b : map) {
            view.giveBytes(b, 1); // up to 8 bytes a call: the highest of them comes first
            sum = (sum + b) % 251;
            sums = (sums + sum) % 251;
        }
        view.giveBytes(256 * sum + sums, 2); // the CHECK
        if (view.loadMap() != 0) {
            System.out.println("fault " + view.lookAt(7) + " at byte " + view.lookAt(8));
            return;
        }

        int surface = view.surfaceAt(32, 24);
        System.out.println("in the middle: kind " + surface / 256 + ", number " + surface % 256);
        int pixel = view.pixelAt(32, 24);
        System.out.println("its texel " + pixel / 16 + ", its shade " + pixel % 16);
        System.out.println("a step ahead: " + view.stepBy(64, 0, 0, false) + ", one more: " + view.stepBy(64, 0, 0, false));
        System.out.println("x is " + view.walkerOf(0) + " behind TICK " + view.walkerOf(5));

        view.addInput(-64, 0, 0, false);
        view.addInput(0, 0, 16, true);
        System.out.println("steps of the run that went no way: " + view.playTo(2));
        System.out.println("x is " + view.walkerOf(0) + ", ANGLE " + view.walkerOf(2) + ", frame " + view.frameOf());
        System.out.println("the run has " + view.saveDemo() + " bytes");
        view.turnBytes(); // what was written is what is read next
        System.out.println("it is read with fault " + view.loadDemo() + " and has " + view.lookAt(4) + " inputs");
    }
}
