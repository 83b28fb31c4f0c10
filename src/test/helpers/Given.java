/** Frames to start from, and numbers at and beyond every bound of the document. */
final class Given {
    /** Bounds with their neighbours, and numbers that a cast, a shift or a product would bring back into them. */
    static final int[] EDGES = {
        Integer.MIN_VALUE, Integer.MIN_VALUE + 1, -2147483642, -1073741824, -65536, -1025, -1024, -1023, -1001, -1000,
        -256, -201, -200, -102, -101, -22, -21, -20, -19, -7, -6, -5, -4, -3, -2, -1, 0, 1, 2, 3, 4, 5, 6, 7, 8, 9, 10,
        11, 19, 20, 21, 22, 31, 32, 33, 63, 64, 65, 127, 128, 199, 200, 201, 202, 255, 256, 257, 511, 512, 513, 999,
        1000, 1001, 1002, 1022, 1023, 1024, 1025, 65536, 65537, 1073741823, 1073741824, 1073741825,
        Integer.MAX_VALUE - 1, Integer.MAX_VALUE};

    private Given() {
    }

    static boolean isIn(int number, int low, int high) {
        return low <= number && number <= high;
    }

    /** A free joint 0 at x, y; a fixed one at each further place; bar i from joint 0 to joint i + 1. */
    static LightFrame fan(int x, int y, int... places) {
        LightFrame f = new LightFrame();
        f.joint(x, y, false);
        for (int i = 0; i + 1 < places.length; i += 2) {
            f.joint(places[i], places[i + 1], true);
            f.bar(0, i / 2 + 1);
        }
        return f;
    }

    /** Bars 0, 1, 2 from 3, 3 down to 0, 0 and 6, 0 and 3, 0. */
    static LightFrame tripod(int px, int py) {
        LightFrame f = fan(3, 3, 0, 0, 6, 0, 3, 0);
        f.load(0, px, py);
        return f;
    }

    /** Six joints, the first three free. */
    static LightFrame sixJoints() {
        LightFrame f = new LightFrame();
        f.joint(2, 2, false);
        f.joint(4, 3, false);
        f.joint(2, 5, false);
        f.joint(0, 0, true);
        f.joint(6, 0, true);
        f.joint(6, 6, true);
        return f;
    }

    /** Six joints with ten bars, all of those at joints 0 and 1 and one more. */
    static LightFrame tenBars() {
        LightFrame f = sixJoints();
        for (int a = 0; a < 2; a++) {
            for (int b = a + 1; b < 6; b++) {
                f.bar(a, b);
            }
        }
        f.bar(2, 3);
        return f;
    }

    /** As much as can be told: ten bars with loads, five sizes, the greatest price. */
    static LightFrame full() {
        LightFrame f = tenBars();
        f.load(0, 20, -20);
        f.load(1, -3, 4);
        f.load(2, 0, -7);
        for (int s : new int[] {200, 1, 50, 10, 3}) {
            f.size(s);
        }
        f.price(1000);
        return f;
    }

    static LightFrame proved(LightFrame f) {
        f.prove();
        return f;
    }

    /**
     * Each kind has a frame of its own, with its own cost: kind 0 bars 0 1 2 3 for 48, kind 1 bars 1 2 3 5 for 50,
     * kind 2 bars 0 1 3 4 for 72, kind 3 bars 1 3 4 5 for 416 / 3.
     */
    static LightFrame fourKinds() {
        LightFrame f = new LightFrame();
        f.joint(4, 6, false);
        f.joint(0, 4, false);
        f.joint(2, 2, true);
        f.joint(0, 2, true);
        f.joint(4, 0, true);
        f.bar(0, 3);
        f.bar(1, 2);
        f.bar(0, 4);
        f.bar(1, 3);
        f.bar(0, 2);
        f.bar(0, 1);
        f.load(0, 2, 0);
        f.load(1, 2, 4);
        f.size(3);
        f.size(1);
        f.price(20);
        return f;
    }

    /** Fixed joints alone, with a bar between two of them: no rows. */
    static LightFrame noRows() {
        LightFrame f = new LightFrame();
        f.joint(0, 0, true);
        f.joint(6, 6, true);
        f.bar(0, 1);
        return f;
    }

    /** A free joint that one bar alone holds: there is no choice. */
    static LightFrame loose() {
        LightFrame f = fan(0, 0, 3, 0);
        f.load(0, 1, 0);
        f.size(9);
        return f;
    }
}
