/** The bounds of joints, bars, loads, sizes, price, crossing and stiffness: promises 1 to 12, and part 1 of the terms. */
public final class BoundaryPart1Test {
    private static final int[] EDGES = Given.EDGES;

    public static void main(String[] args) {
        newObject();
        sixJointsAtMost();
        placesFrom0To6();
        noTwoJointsAlike();
        threeFreeAtMost();
        fullForSixOrThreeFree();
        tenBarsAtMost();
        barUnknown();
        eachPairOnce();
        barsBetweenAnyJoints();
        stuffIsTheSquare();
        loadsFromMinus20To20();
        loadOnFixedOrUnknown();
        loadIsOfOneJoint();
        aboutJoint();
        ofBarNumbers();
        sizesFrom1To200();
        fiveSizesAtMost();
        sizeOnce();
        priceFrom0To1000();
        dropDownToNone();
        crossUnknown();
        crossAtEnds();
        crossEverywhere();
        stiffOutside();
        stiffSets();
        choicesFromNoneOn();
        rIsTwiceTheFree();
        pullOnBothJoints();
        told();
        Due.end();
    }

    private static void newObject() {
        Due.sentence("1: No JOINTS, BARS, SIZES; PRICE 0");
        LightFrame f = new LightFrame();
        for (int what = 0; what < 5; what++) {
            Due.due("told " + what, f.told(what), 0);
        }
        Due.due("about", f.about(0, 0), -101);
        Due.due("ofBar", f.ofBar(0, 0), -1);
        Due.due("bar", f.bar(0, 1), -1);
        Due.due("load", f.load(0, 0, 0), -1);
        Due.due("drop", f.drop(), -1);
        Due.due("cross", f.cross(0, 1), -1);
        Due.due("stiff of none", f.stiff(0), 1);
        Due.due("stiff of one", f.stiff(1), -2);
        Due.due("choices", f.choices(), 1);
        Due.due("pull", f.pull(0, 0, 0), Due.LOST - 1);
        Due.due("sized", f.sized(0), -1);
        Due.due("field", f.field(0, 0, 0), Due.LOST - 3);
        Due.due("slack", f.slack(0, 0), Due.LOST - 3);
        Due.due("price", f.price(1), 0);
        Due.due("size", f.size(1), 1);
        Due.due("joint", f.joint(0, 0, true), 0);
        Due.due("another object", new LightFrame().told(0), 0);
    }

    private static void sixJointsAtMost() {
        Due.sentence("Terms 1: JOINTS, 6 at most, numbered from 0 on");
        LightFrame f = new LightFrame();
        for (int i = 0; i < 6; i++) {
            Due.due("joint " + i, f.joint(i, 6 - i, i != 4), i);
            Due.due("joints", f.told(0), i + 1);
        }
        Due.due("a seventh", f.joint(0, 0, true), -4);
        Due.due("a free seventh", f.joint(0, 0, false), -4);
        Due.due("joints", f.told(0), 6);
        Due.due("free ones", f.told(1), 1);
        Due.due("no joint 6", f.about(6, 0), -101);
        Due.due("joint 5 is the last", f.about(5, 0), 5);
    }

    private static void placesFrom0To6() {
        Due.sentence("Terms 1: at places x, y (0 to 6 both)");
        for (int x : EDGES) {
            for (int y : EDGES) {
                boolean good = Given.isIn(x, 0, 6) && Given.isIn(y, 0, 6);
                boolean fixed = (x + y) % 2 == 0;
                LightFrame f = new LightFrame();
                Due.due("joint " + x + " " + y, f.joint(x, y, fixed), good ? 0 : -2);
                Due.due("x of it", f.about(0, 0), good ? x : -101);
                Due.due("y of it", f.about(0, 1), good ? y : -101);
                Due.due("fixed", f.about(0, 2), !good ? -101 : fixed ? 1 : 0);
            }
        }
    }

    private static void noTwoJointsAlike() {
        Due.sentence("2: NO: one is there");
        for (int place = 0; place < 49; place++) {
            int x = place / 7;
            int y = place % 7;
            for (int kinds = 0; kinds < 4; kinds++) {
                LightFrame f = new LightFrame();
                f.joint(x, y, kinds % 2 == 0);
                Due.due("there", f.joint(x, y, kinds / 2 == 0), -5);
                Due.due("beside", f.joint((x + 1) % 7, y, kinds / 2 == 0), 1);
                Due.due("above", f.joint(x, (y + 1) % 7, true), 2);
                Due.due("beside is there now", f.joint((x + 1) % 7, y, true), -5);
                Due.due("joints", f.told(0), 3);
            }
        }
        LightFrame f = new LightFrame();
        Due.due("x and y", f.joint(1, 2, true), 0);
        Due.due("turned about", f.joint(2, 1, true), 1);
    }

    private static void threeFreeAtMost() {
        Due.sentence("Terms 1: 3 FREE ones at most");
        for (int order = 0; order < 64; order++) {
            LightFrame f = new LightFrame();
            int joints = 0;
            int free = 0;
            for (int i = 0; i < 6; i++) {
                boolean fixed = (order >> i & 1) == 0;
                boolean room = fixed || free < 3;
                Due.due("order " + order + ", joint " + i, f.joint(i, 1, fixed), room ? joints : -4);
                joints += room ? 1 : 0;
                free += room && !fixed ? 1 : 0;
                Due.due("free ones", f.told(1), free);
                Due.due("joints", f.told(0), joints);
            }
        }
    }

    private static void fullForSixOrThreeFree() {
        Due.sentence("2: FULL: six, or three FREE ones");
        LightFrame f = new LightFrame();
        for (int i = 0; i < 3; i++) {
            Due.due("free", f.joint(i, 0, false), i);
        }
        Due.due("a fourth free one", f.joint(3, 0, false), -4);
        Due.due("a fourth free one at a place that is taken", f.joint(0, 0, false), -4);
        Due.due("a fourth free one outside", f.joint(7, 0, false), -2);
        Due.due("a fixed one at a place that is taken", f.joint(0, 0, true), -5);
        Due.due("a fixed one", f.joint(3, 0, true), 3);
        Due.due("a fixed one", f.joint(4, 0, true), 4);
        Due.due("a fixed one", f.joint(5, 0, true), 5);
        Due.due("a seventh", f.joint(6, 0, true), -4);
        Due.due("a seventh at a place that is taken", f.joint(5, 0, true), -4);
        Due.due("a seventh outside", f.joint(0, -1, true), -2);
    }

    private static void tenBarsAtMost() {
        Due.sentence("Terms 1: BARS, 10 at most, numbered from 0 on");
        LightFrame f = Given.sixJoints();
        int bars = 0;
        for (int a = 0; a < 6; a++) {
            for (int b = a + 1; b < 6; b++) {
                Due.due("bar " + a + " " + b, f.bar(a, b), bars < 10 ? bars : -4);
                bars = Math.min(bars + 1, 10);
                Due.due("bars", f.told(2), bars);
            }
        }
        Due.due("bar 9 is the last", f.ofBar(9, 0), 2);
        Due.due("no bar 10", f.ofBar(10, 0), -1);
        Due.due("full, though there is one", f.bar(0, 1), -4);
        Due.due("full, though there is one, turned", f.bar(1, 0), -4);
        Due.due("full, joint unknown", f.bar(0, 6), -1);
        Due.due("full, one and the same", f.bar(5, 5), -1);
        Due.due("drop", f.drop(), 9);
        Due.due("there is one", f.bar(1, 0), -5);
        Due.due("room for one", f.bar(5, 4), 9);
        Due.due("full again", f.bar(2, 3), -4);
    }

    private static void barUnknown() {
        Due.sentence("3: UNKNOWN: also they are one");
        for (int a : EDGES) {
            for (int b : EDGES) {
                boolean good = Given.isIn(a, 0, 5) && Given.isIn(b, 0, 5) && a != b;
                LightFrame f = Given.sixJoints();
                Due.due("bar " + a + " " + b, f.bar(a, b), good ? 0 : -1);
                Due.due("bars", f.told(2), good ? 1 : 0);
            }
        }
        LightFrame two = new LightFrame();
        two.joint(0, 0, true);
        Due.due("the next joint", two.bar(0, 1), -1);
        Due.due("the next joint ahead", two.bar(1, 0), -1);
        Due.due("alone", two.bar(0, 0), -1);
        two.joint(1, 0, true);
        Due.due("it is there now", two.bar(0, 1), 0);
    }

    private static void eachPairOnce() {
        Due.sentence("Terms 1: each pair once (3: NO: there is one)");
        for (int a = 0; a < 6; a++) {
            for (int b = 0; b < 6; b++) {
                if (a != b) {
                    LightFrame f = Given.sixJoints();
                    Due.due("bar", f.bar(a, b), 0);
                    Due.due("as it is", f.bar(a, b), -5);
                    Due.due("turned", f.bar(b, a), -5);
                    Due.due("with one joint of it", f.bar(a, (b + 1) % 6 == a ? (b + 2) % 6 : (b + 1) % 6), 1);
                    Due.due("still there", f.bar(b, a), -5);
                    Due.due("bars", f.told(2), 2);
                }
            }
        }
    }

    private static void barsBetweenAnyJoints() {
        Due.sentence("Terms 1: BARS could be between two JOINTS");
        LightFrame f = Given.sixJoints();
        Due.due("between free ones", f.bar(0, 1), 0);
        Due.due("between fixed ones", f.bar(5, 3), 1);
        Due.due("free and fixed", f.bar(2, 4), 2);
        Due.due("fixed and free", f.bar(4, 0), 3);
    }

    private static void stuffIsTheSquare() {
        Due.sentence("Terms 1: STUFF of a BAR is the square of its length");
        for (int from = 0; from < 49; from++) {
            for (int to = 0; to < 49; to++) {
                if (from != to) {
                    LightFrame f = new LightFrame();
                    f.joint(from / 7, from % 7, true);
                    f.joint(to / 7, to % 7, true);
                    f.bar(0, 1);
                    int across = to / 7 - from / 7;
                    int up = to % 7 - from % 7;
                    Due.due("stuff " + from + " " + to, f.ofBar(0, 2), across * across + up * up);
                }
            }
        }
    }

    private static void loadsFromMinus20To20() {
        Due.sentence("Terms 1: A LOAD on a FREE JOINT: px, py (-20 to 20)");
        for (int px : EDGES) {
            LightFrame f = Given.tripod(3, -4);
            for (int py : EDGES) {
                boolean good = Given.isIn(px, -20, 20) && Given.isIn(py, -20, 20);
                f.load(0, 3, -4);
                Due.due("load " + px + " " + py, f.load(0, px, py), good ? 1 : -2);
                Due.due("px", f.about(0, 3), good ? px : 3);
                Due.due("py", f.about(0, 4), good ? py : -4);
            }
        }
    }

    private static void loadOnFixedOrUnknown() {
        Due.sentence("4: UNKNOWN; OUTSIDE; NO: it is FIXED");
        LightFrame f = Given.tripod(3, -4);
        for (int joint : EDGES) {
            boolean known = Given.isIn(joint, 0, 3);
            Due.due("load " + joint, f.load(joint, -20, 20), !known ? -1 : joint == 0 ? 1 : -5);
            Due.due("load outside " + joint, f.load(joint, 21, 0), known ? -2 : -1);
            Due.due("load outside up " + joint, f.load(joint, 0, -21), known ? -2 : -1);
        }
        Due.due("px of a fixed one", f.about(1, 3), 0);
        Due.due("py of a fixed one", f.about(1, 4), 0);
        Due.due("px of the free one", f.about(0, 3), -20);
    }

    private static void loadIsOfOneJoint() {
        Due.sentence("4: The LOAD of a JOINT: 1");
        LightFrame f = new LightFrame();
        f.joint(0, 0, true);
        f.joint(1, 0, false);
        f.joint(2, 0, true);
        f.joint(3, 0, false);
        f.joint(4, 0, false);
        Due.due("none at first", f.about(3, 3), 0);
        Due.due("load 1", f.load(1, 1, 2), 1);
        Due.due("load 3", f.load(3, 3, 4), 1);
        Due.due("load 4", f.load(4, 5, 6), 1);
        Due.due("load 3 anew", f.load(3, -7, 0), 1);
        long[] px = {0, 1, 0, -7, 5};
        long[] py = {0, 2, 0, 0, 6};
        for (int joint = 0; joint < 5; joint++) {
            Due.due("px " + joint, f.about(joint, 3), px[joint]);
            Due.due("py " + joint, f.about(joint, 4), py[joint]);
        }
    }

    private static void aboutJoint() {
        Due.sentence("5: 0 x, 1 y, 2 whether FIXED (1, 0), 3 px, 4 py. (UNKNOWN: -101; OUTSIDE: -102.)");
        long[][] want = {{3, 5, 0, -20, 20}, {0, 6, 1, 0, 0}, {6, 0, 1, 0, 0}};
        for (int joint : EDGES) {
            LightFrame f = Given.fan(3, 5, 0, 6, 6, 0);
            f.load(0, -20, 20);
            for (int what : EDGES) {
                boolean known = Given.isIn(joint, 0, 2);
                boolean good = Given.isIn(what, 0, 4);
                long answer = !known ? -101 : !good ? -102 : want[joint][what];
                Due.due("about " + joint + " " + what, f.about(joint, what), answer);
            }
        }
    }

    private static void ofBarNumbers() {
        Due.sentence("6: Of a BAR: 0, 1 its JOINTS (as told), 2 STUFF. UNKNOWN; OUTSIDE");
        long[][] want = {{5, 3, 72}, {0, 1, 5}, {1, 5, 13}};
        for (int bar : EDGES) {
            LightFrame f = Given.sixJoints();
            f.bar(5, 3);
            f.bar(0, 1);
            f.bar(1, 5);
            for (int what : EDGES) {
                boolean known = Given.isIn(bar, 0, 2);
                boolean good = Given.isIn(what, 0, 2);
                long answer = !known ? -1 : !good ? -2 : want[bar][what];
                Due.due("ofBar " + bar + " " + what, f.ofBar(bar, what), answer);
            }
        }
    }

    private static void sizesFrom1To200() {
        Due.sentence("Terms 2: SIZES are whole (1 to 200)");
        for (int s : EDGES) {
            LightFrame f = new LightFrame();
            boolean good = Given.isIn(s, 1, 200);
            Due.due("size " + s, f.size(s), good ? 1 : -2);
            Due.due("sizes", f.told(3), good ? 1 : 0);
        }
    }

    private static void fiveSizesAtMost() {
        Due.sentence("Terms 2: SIZES, 5 at most (7: how many there are. FULL)");
        LightFrame f = new LightFrame();
        int[] sizes = {200, 1, 199, 2, 100};
        for (int i = 0; i < 5; i++) {
            Due.due("size", f.size(sizes[i]), i + 1);
            Due.due("sizes", f.told(3), i + 1);
        }
        Due.due("a sixth", f.size(50), -4);
        for (int s : sizes) {
            Due.due("full, though there is that one", f.size(s), -4);
        }
        Due.due("full and too small", f.size(0), -2);
        Due.due("full and too large", f.size(201), -2);
        Due.due("sizes", f.told(3), 5);
    }

    private static void sizeOnce() {
        Due.sentence("7: NO: there is that one");
        LightFrame f = new LightFrame();
        int[] sizes = {7, 200, 1, 8};
        for (int i = 0; i < 4; i++) {
            Due.due("size", f.size(sizes[i]), i + 1);
            for (int j = 0; j <= i; j++) {
                Due.due("again", f.size(sizes[j]), -5);
            }
            Due.due("sizes", f.told(3), i + 1);
        }
        Due.due("too large while there are some", f.size(201), -2);
    }

    private static void priceFrom0To1000() {
        Due.sentence("8: PRICE: which it was. OUTSIDE (0 to 1000; 0 at first)");
        LightFrame f = new LightFrame();
        int before = 0;
        for (int p : EDGES) {
            boolean good = Given.isIn(p, 0, 1000);
            Due.due("price " + p, f.price(p), good ? before : -2);
            before = good ? p : before;
            Due.due("told", f.told(4), before);
        }
        Due.due("the greatest", f.price(1000), before);
        Due.due("the greatest again", f.price(1000), 1000);
        Due.due("the least", f.price(0), 1000);
        Due.due("the least again", f.price(0), 0);
    }

    private static void dropDownToNone() {
        Due.sentence("9: The latest BAR goes: how many there are. UNKNOWN: there is none");
        LightFrame f = Given.tenBars();
        for (int bars = 9; bars >= 0; bars--) {
            int from = bars == 0 ? -1 : f.ofBar(bars - 1, 0);
            Due.due("drop", f.drop(), bars);
            Due.due("bars", f.told(2), bars);
            Due.due("it is gone", f.ofBar(bars, 0), -1);
            Due.due("the one before stays", f.ofBar(bars - 1, 0), from);
        }
        Due.due("none", f.drop(), -1);
        Due.due("none again", f.drop(), -1);
        Due.due("bars", f.told(2), 0);
        Due.due("joints stay", f.told(0), 6);
        Due.due("numbers from 0 on again", f.bar(4, 2), 0);
        Due.due("as told", f.ofBar(0, 0), 4);
        Due.due("stuff", f.ofBar(0, 2), 41);
        LightFrame four = new LightFrame();
        four.joint(0, 0, true);
        four.joint(6, 6, true);
        four.joint(0, 6, true);
        four.joint(6, 0, true);
        four.bar(0, 1);
        int[] ends = {3, 1, 3, 0};
        for (int end : ends) {
            four.bar(2, end);
            Due.due("bar 1 of that time", four.cross(0, 1), end == 3 ? 1 : 0);
            four.drop();
        }
    }

    private static void crossUnknown() {
        Due.sentence("10: UNKNOWN: also they are one");
        for (int a : EDGES) {
            LightFrame f = Given.tripod(0, 0);
            for (int b : EDGES) {
                boolean known = Given.isIn(a, 0, 2) && Given.isIn(b, 0, 2) && a != b;
                Due.due("cross " + a + " " + b, f.cross(a, b), known ? 0 : -1);
            }
        }
        LightFrame ten = Given.tenBars();
        Due.due("two of ten that cross", ten.cross(4, 5), 1);
        Due.due("the last", ten.cross(9, 8), 0);
        Due.due("the last, turned", ten.cross(8, 9), 0);
        Due.due("beyond", ten.cross(9, 10), -1);
        ten.drop();
        Due.due("gone", ten.cross(9, 8), -1);
    }

    /** Whether the bar from a, b to c, d crosses that from e, f to g, h: 1, 0. */
    private static int crossing(int... places) {
        LightFrame f = new LightFrame();
        int[] joints = new int[4];
        for (int i = 0; i < 4; i++) {
            joints[i] = f.joint(places[2 * i], places[2 * i + 1], true);
            for (int before = 0; before < i && joints[i] < 0; before++) {
                boolean same = places[2 * before] == places[2 * i] && places[2 * before + 1] == places[2 * i + 1];
                joints[i] = same ? joints[before] : joints[i];
            }
        }
        f.bar(joints[0], joints[1]);
        f.bar(joints[2], joints[3]);
        int answer = f.cross(0, 1);
        Due.due("both ways alike", f.cross(1, 0), answer);
        return answer;
    }

    private static void crossAtEnds() {
        Due.sentence("Terms 2: Two BARS CROSS, if they have a point together that is not an end of both");
        Due.due("inside both", crossing(0, 0, 6, 6, 0, 6, 6, 0), 1);
        Due.due("an end of both", crossing(0, 0, 3, 3, 3, 3, 6, 0), 0);
        Due.due("an end of one inside the other", crossing(0, 0, 6, 6, 3, 3, 6, 0), 1);
        Due.due("just short of the other", crossing(0, 0, 6, 6, 3, 2, 6, 0), 0);
        Due.due("just beyond the end", crossing(0, 0, 5, 5, 6, 6, 6, 0), 0);
        Due.due("on one line, end to end", crossing(0, 0, 3, 0, 3, 0, 6, 0), 0);
        Due.due("on one line, apart", crossing(0, 0, 2, 0, 3, 0, 6, 0), 0);
        Due.due("on one line, one over the other", crossing(0, 0, 4, 0, 3, 0, 6, 0), 1);
        Due.due("on one line, an end of both and more", crossing(0, 0, 1, 0, 0, 0, 6, 0), 1);
        Due.due("on one line, the far end of both and more", crossing(6, 0, 5, 0, 0, 0, 6, 0), 1);
        Due.due("one within the other", crossing(0, 3, 6, 3, 2, 3, 3, 3), 1);
        Due.due("side by side", crossing(0, 0, 6, 0, 0, 1, 6, 1), 0);
    }

    /** Bars of many slopes against every other bar: the point together is looked for in fractions of both ways. */
    private static void crossEverywhere() {
        Due.sentence("10: Whether two BARS CROSS: 1, 0");
        int[][] bars = {{0, 0, 6, 6}, {3, 3, 3, 4}, {2, 5, 5, 5}, {1, 2, 5, 4}, {6, 0, 0, 3}, {2, 2, 4, 4}, {4, 1, 3, 6}};
        for (int[] bar : bars) {
            for (int from = 0; from < 49; from++) {
                for (int to = 0; to < 49; to++) {
                    int[] p = {bar[0], bar[1], bar[2], bar[3], from / 7, from % 7, to / 7, to % 7};
                    boolean same = isAt(p, 4, 0) && isAt(p, 6, 2) || isAt(p, 4, 2) && isAt(p, 6, 0);
                    if (from != to && !same) {
                        Due.due("cross " + java.util.Arrays.toString(p), crossing(p), shareMore(p) ? 1 : 0);
                    }
                }
            }
        }
    }

    private static boolean isAt(int[] p, int one, int other) {
        return p[one] == p[other] && p[one + 1] == p[other + 1];
    }

    private static boolean shareMore(int[] p) {
        int wx = p[2] - p[0];
        int wy = p[3] - p[1];
        int ox = p[6] - p[4];
        int oy = p[7] - p[5];
        int turn = wx * oy - wy * ox;
        int gapX = p[4] - p[0];
        int gapY = p[5] - p[1];
        if (turn == 0) {
            int length = wx * wx + wy * wy;
            int start = gapX * wx + gapY * wy;
            int end = start + ox * wx + oy * wy;
            return gapX * wy == gapY * wx && Math.max(Math.min(start, end), 0) < Math.min(Math.max(start, end), length);
        }
        int s = (gapX * oy - gapY * ox) * Integer.signum(turn);
        int t = (gapX * wy - gapY * wx) * Integer.signum(turn);
        int whole = Math.abs(turn);
        boolean inBoth = Given.isIn(s, 0, whole) && Given.isIn(t, 0, whole);
        return inBoth && (s > 0 && s < whole || t > 0 && t < whole);
    }

    private static void stiffOutside() {
        Due.sentence("11: Whether a set of BARS (bits) is STIFF: OUTSIDE");
        for (int bars = 0; bars <= 10; bars++) {
            LightFrame f = new LightFrame();
            for (int i = 0; i < 5; i++) {
                f.joint(i, i * i % 5, true);
            }
            for (int i = 0; i < bars; i++) {
                Due.due("bar", f.bar(i % 5, (i % 5 + 1 + i / 5) % 5), i);
            }
            for (int set : EDGES) {
                boolean good = set >= 0 && set < 1 << bars;
                Due.due(bars + " bars, stiff " + set, f.stiff(set), good ? 1 : -2);
            }
            Due.due("all", f.stiff((1 << bars) - 1), 1);
            Due.due("one too many", f.stiff(1 << bars), -2);
        }
    }

    private static void stiffSets() {
        Due.sentence("Terms 3: STIFF is a set of BARS, if there is a CHOICE in it");
        LightFrame f = Given.fan(3, 3, 0, 0, 6, 6, 3, 0, 0, 6);
        f.bar(1, 3);
        for (int set = 0; set < 32; set++) {
            boolean diagonal = (set & 3) != 0;
            int ways = (diagonal ? 1 : 0) + Integer.bitCount(set & 12);
            Due.due("stiff " + set, f.stiff(set), ways >= 2 ? 1 : 0);
        }
        LightFrame ten = Given.tenBars();
        Due.due("ten bars, but joint 2 is held by three", ten.stiff(1023), 1);
        Due.due("joint 2 by one alone", ten.stiff(1023 & ~(1 << 1 | 1 << 5)), 0);
        ten.drop();
        Due.due("after a drop", ten.stiff(511), 1);
        ten.drop();
        ten.drop();
        Due.due("two more", ten.stiff(127), 1);
        ten.drop();
        Due.due("as many bars as rows", ten.stiff(63), 0);
        ten.drop();
        Due.due("fewer bars than rows", ten.stiff(31), 0);
        LightFrame loose = Given.loose();
        Due.due("one bar for two rows", loose.stiff(1), 0);
        Due.due("none for two rows", loose.stiff(0), 0);
    }

    private static void choicesFromNoneOn() {
        Due.sentence("12: How many CHOICES there are");
        Due.due("no rows", new LightFrame().choices(), 1);
        Due.due("no rows, a bar", Given.noRows().choices(), 1);
        Due.due("fewer bars than rows", Given.loose().choices(), 0);
        Due.due("no bars", Given.sixJoints().choices(), 0);
        Due.due("as many bars as rows", Given.fan(3, 3, 0, 0, 3, 0).choices(), 1);
        Due.due("as many, on one line", Given.fan(3, 3, 0, 0, 6, 6).choices(), 0);
        Due.due("as many, one over the other", Given.fan(0, 0, 3, 3, 6, 6).choices(), 0);
        Due.due("one more", Given.tripod(0, 0).choices(), 3);
        Due.due("all pairs of five", Given.fan(3, 3, 0, 0, 3, 0, 6, 0, 0, 3, 0, 1).choices(), 10);
        LightFrame f = Given.tripod(20, 20);
        f.bar(1, 2);
        Due.due("a bar between fixed ones is in none", f.choices(), 3);
        f.joint(6, 6, false);
        Due.due("a free joint that is not held", f.choices(), 0);
        f.bar(4, 0);
        f.bar(4, 2);
        Due.due("it is held", f.choices(), 3);
        f.drop();
        Due.due("no more", f.choices(), 0);
    }

    private static void rIsTwiceTheFree() {
        Due.sentence("Terms 1: R is twice the FREE JOINTS (2: just R of them)");
        LightFrame f = new LightFrame();
        f.joint(0, 0, true);
        f.joint(6, 0, true);
        Due.due("no free one", Integer.bitCount(f.frame(0)), 0);
        for (int free = 1; free <= 3; free++) {
            f.joint(free, 6, false);
            Due.due("not held", f.frame(0), -6);
            f.bar(free + 1, 0);
            Due.due("held by one", f.frame(0), -6);
            f.bar(free + 1, 1);
            Due.due("held by two", f.frame(0), (1 << 2 * free) - 1);
            Due.due("choices", f.choices(), 1);
        }
    }

    private static void pullOnBothJoints() {
        Due.sentence("Terms 1: A BAR bears PULL q (below 0: it is pushed)");
        for (int turned = 0; turned < 2; turned++) {
            LightFrame f = new LightFrame();
            f.joint(3, 3, false);
            f.joint(3, 6, true);
            f.joint(5, 3, true);
            f.bar(turned, 1 - turned);
            f.bar(2, 0);
            f.load(0, 0, -6);
            Due.dueFraction("hangs", f.pull(0, 0, 0), f.pull(0, 0, 1), 2, 1);
            f.load(0, 0, 5);
            Due.dueFraction("stands", f.pull(0, 0, 0), f.pull(0, 0, 1), -5, 3);
            f.load(0, 7, 0);
            Due.dueFraction("pushed from the side", f.pull(0, 1, 0), f.pull(0, 1, 1), -7, 2);
            f.load(0, -20, 0);
            Due.dueFraction("pulled to the side", f.pull(0, 1, 0), f.pull(0, 1, 1), 10, 1);
        }
        Due.sentence("Terms 1: on each of its JOINTS q times the way to the other one");
        LightFrame chain = new LightFrame();
        chain.joint(1, 0, true);
        chain.joint(1, 2, false);
        chain.joint(1, 6, false);
        chain.joint(6, 2, true);
        chain.joint(6, 6, true);
        chain.bar(0, 1);
        chain.bar(2, 1);
        chain.bar(1, 3);
        chain.bar(4, 2);
        chain.load(2, 3, -8);
        chain.load(1, 0, 2);
        Due.dueFraction("upper bar", chain.pull(0, 1, 0), chain.pull(0, 1, 1), -2, 1);
        Due.dueFraction("lower bar bears both", chain.pull(0, 0, 0), chain.pull(0, 0, 1), -3, 1);
        Due.dueFraction("side bar", chain.pull(0, 3, 0), chain.pull(0, 3, 1), -3, 5);
        Due.dueFraction("other side bar", chain.pull(0, 2, 0), chain.pull(0, 2, 1), 0, 1);
    }

    private static void told() {
        Due.sentence("21: 0 JOINTS, 1 FREE ones, 2 BARS, 3 SIZES, 4 PRICE. OUTSIDE");
        long[] none = {0, 0, 0, 0, 0};
        long[] most = {6, 3, 10, 5, 1000};
        LightFrame empty = new LightFrame();
        LightFrame full = Given.full();
        for (int what : EDGES) {
            boolean good = Given.isIn(what, 0, 4);
            Due.due("new, told " + what, empty.told(what), good ? none[what] : -2);
            Due.due("full, told " + what, full.told(what), good ? most[what] : -2);
        }
    }
}
