import java.util.function.Supplier;
import java.util.function.ToLongFunction;

/** The order of the refusals where two of them fit, and that a refused call, or a question, changes nothing. */
public final class BoundaryRefusalsTest {
    private static final long LOST = Due.LOST;
    private static final int MIN = Integer.MIN_VALUE;
    private static final int MAX = Integer.MAX_VALUE;

    public static void main(String[] args) {
        unknownAheadOfOutside();
        unknownAheadOfFullAndNo();
        outsideAheadOfFullAndNo();
        fullAheadOfNo();
        stateAheadOfAll();
        refusalsAheadOfNone();
        refusedJoints();
        refusedBars();
        refusedLoads();
        refusedSizesAndPrices();
        refusedDrops();
        refusedQuestions();
        questionsChangeNothing();
        tellingChangesOneThing();
        objectsAreApart();
        nothingIsThrown();
        Due.end();
    }

    /** The call is answered so, again and again, and all else as by an object that was never asked. */
    private static void refused(String call, Supplier<LightFrame> given, ToLongFunction<LightFrame> made, long want) {
        LightFrame f = given.get();
        Due.due(call, made.applyAsLong(f), want);
        Due.due(call + ": first answer that it changed", View.difference(View.of(f), View.of(given.get())), -1);
        // Another object, since one is good for 512 calls alone.
        LightFrame proved = given.get();
        made.applyAsLong(proved);
        Due.due(call + ", again", made.applyAsLong(proved), want);
        LightFrame twin = given.get();
        Due.due(call + ": prove", proved.prove(), twin.prove());
        Due.due(call + ": first answer of the proof that it changed",
            View.difference(View.of(proved), View.of(twin)), -1);
    }

    private static LightFrame provedFull() {
        return Given.proved(Given.full());
    }

    private static LightFrame provedKinds() {
        return Given.proved(Given.fourKinds());
    }

    private static void unknownAheadOfOutside() {
        Due.sentence("Terms: the first of these that fits: UNKNOWN ahead of OUTSIDE");
        LightFrame f = provedKinds();
        Due.due("load", f.load(5, 21, 0), -1);
        Due.due("load below", f.load(-1, 0, -21), -1);
        Due.due("about", f.about(5, 5), -101);
        Due.due("ofBar", f.ofBar(6, 3), -1);
        Due.due("pull, kind", f.pull(4, 6, 0), LOST - 1);
        Due.due("pull, part", f.pull(0, 6, 2), LOST - 1);
        Due.due("field, which", f.field(5, 2, 0), LOST - 1);
        Due.due("field, part", f.field(-1, 0, 2), LOST - 1);
        Due.due("slack", f.slack(6, 2), LOST - 1);
    }

    private static void unknownAheadOfFullAndNo() {
        Due.sentence("Terms: the first of these that fits: UNKNOWN ahead of FULL, NO");
        LightFrame f = Given.full();
        Due.due("bar, full", f.bar(0, 6), -1);
        Due.due("bar, full, turned", f.bar(6, 0), -1);
        Due.due("bar, full, one and the same", f.bar(4, 4), -1);
        LightFrame some = Given.tripod(0, 0);
        Due.due("bar, one and the same", some.bar(0, 0), -1);
        Due.due("load", some.load(4, 0, 0), -1);
    }

    private static void outsideAheadOfFullAndNo() {
        Due.sentence("Terms: the first of these that fits: OUTSIDE ahead of FULL, NO");
        LightFrame f = Given.full();
        Due.due("joint, six", f.joint(7, 0, true), -2);
        Due.due("joint, six and three free", f.joint(0, -1, false), -2);
        Due.due("size, five", f.size(0), -2);
        Due.due("size, five, above", f.size(201), -2);
        Due.due("load, fixed", f.load(3, 21, 0), -2);
        Due.due("load, fixed, py", f.load(3, 0, -21), -2);
        LightFrame three = new LightFrame();
        three.joint(0, 0, false);
        three.joint(1, 0, false);
        three.joint(2, 0, false);
        Due.due("joint, three free", three.joint(-1, 0, false), -2);
    }

    private static void fullAheadOfNo() {
        Due.sentence("Terms: the first of these that fits: FULL ahead of NO");
        LightFrame f = Given.full();
        Due.due("joint, six, taken", f.joint(0, 0, true), -4);
        Due.due("joint, six and three free, taken", f.joint(2, 2, false), -4);
        Due.due("bar, ten, there is one", f.bar(0, 1), -4);
        Due.due("bar, ten, there is one, turned", f.bar(3, 2), -4);
        Due.due("size, five, there is that one", f.size(200), -4);
        LightFrame three = new LightFrame();
        three.joint(0, 0, false);
        three.joint(1, 0, false);
        three.joint(2, 0, false);
        Due.due("joint, three free, taken", three.joint(1, 0, false), -4);
        Due.due("joint, three free, a fixed one, taken", three.joint(1, 0, true), -5);
    }

    private static void stateAheadOfAll() {
        Due.sentence("19: STATE: LOST less 3, ahead");
        LightFrame f = Given.fourKinds();
        Due.due("field, unknown", f.field(5, 0, 0), LOST - 3);
        Due.due("field, outside", f.field(0, 2, 0), LOST - 3);
        Due.due("field, unknown and outside", f.field(-1, -1, -1), LOST - 3);
        Due.due("slack, unknown", f.slack(6, 0), LOST - 3);
        Due.due("slack, outside", f.slack(0, 2), LOST - 3);
        f.prove();
        Due.due("field, unknown, proved", f.field(5, 0, 0), LOST - 1);
        Due.due("slack, outside, proved", f.slack(0, 2), LOST - 2);
    }

    private static void refusalsAheadOfNone() {
        Due.sentence("Terms: Calls that are refused answer so, whether or not there is a FRAME (NONE)");
        LightFrame f = Given.loose();
        Due.due("frame", f.frame(4), -2);
        Due.due("cost", f.cost(0, 2), LOST - 2);
        Due.due("cost, kind", f.cost(-1, 0), LOST - 2);
        Due.due("pull, unknown", f.pull(0, 1, 0), LOST - 1);
        Due.due("pull, outside", f.pull(0, 0, 2), LOST - 2);
        Due.due("used", f.used(0, 2), -2);
        Due.due("used, kind", f.used(4, 1), -2);
        Due.due("sized", f.sized(1), -1);
        Due.due("none", f.frame(0), -6);
    }

    private static void refusedJoints() {
        Due.sentence("Terms: They change nothing (joint)");
        refused("joint, x below", BoundaryRefusalsTest::provedKinds, f -> f.joint(-1, 0, true), -2);
        refused("joint, x above", BoundaryRefusalsTest::provedKinds, f -> f.joint(7, 0, false), -2);
        refused("joint, y below", BoundaryRefusalsTest::provedKinds, f -> f.joint(0, -1, true), -2);
        refused("joint, y above", BoundaryRefusalsTest::provedKinds, f -> f.joint(0, 7, false), -2);
        refused("joint, taken", BoundaryRefusalsTest::provedKinds, f -> f.joint(4, 6, false), -5);
        refused("joint, taken, fixed", BoundaryRefusalsTest::provedKinds, f -> f.joint(2, 2, true), -5);
        refused("joint, full", BoundaryRefusalsTest::provedFull, f -> f.joint(1, 1, true), -4);
        refused("joint, full, free", BoundaryRefusalsTest::provedFull, f -> f.joint(1, 1, false), -4);
        refused("joint of a new object", LightFrame::new, f -> f.joint(MIN, MAX, false), -2);
        Supplier<LightFrame> threeFree = () -> {
            LightFrame f = Given.fan(1, 1, 0, 0, 6, 0);
            f.joint(3, 3, false);
            f.joint(4, 4, false);
            return f;
        };
        refused("joint, three free ones", threeFree, f -> f.joint(5, 5, false), -4);
    }

    private static void refusedBars() {
        Due.sentence("Terms: They change nothing (bar)");
        refused("bar, unknown", BoundaryRefusalsTest::provedKinds, f -> f.bar(0, 5), -1);
        refused("bar, unknown, turned", BoundaryRefusalsTest::provedKinds, f -> f.bar(-1, 0), -1);
        refused("bar, one and the same", BoundaryRefusalsTest::provedKinds, f -> f.bar(1, 1), -1);
        refused("bar, there is one", BoundaryRefusalsTest::provedKinds, f -> f.bar(0, 3), -5);
        refused("bar, there is one, turned", BoundaryRefusalsTest::provedKinds, f -> f.bar(1, 0), -5);
        refused("bar, full", BoundaryRefusalsTest::provedFull, f -> f.bar(2, 4), -4);
        refused("bar of a new object", LightFrame::new, f -> f.bar(0, 1), -1);
    }

    private static void refusedLoads() {
        Due.sentence("Terms: They change nothing (load)");
        refused("load, unknown", BoundaryRefusalsTest::provedKinds, f -> f.load(5, 1, 1), -1);
        refused("load, px above", BoundaryRefusalsTest::provedKinds, f -> f.load(0, 21, 1), -2);
        refused("load, px below", BoundaryRefusalsTest::provedKinds, f -> f.load(0, -21, 1), -2);
        refused("load, py above", BoundaryRefusalsTest::provedKinds, f -> f.load(1, 1, 21), -2);
        refused("load, py below", BoundaryRefusalsTest::provedKinds, f -> f.load(1, 1, -21), -2);
        refused("load, fixed", BoundaryRefusalsTest::provedKinds, f -> f.load(2, 1, 1), -5);
        refused("load, fixed, full", BoundaryRefusalsTest::provedFull, f -> f.load(5, 1, 1), -5);
    }

    private static void refusedSizesAndPrices() {
        Due.sentence("Terms: They change nothing (size, price)");
        refused("size, below", BoundaryRefusalsTest::provedKinds, f -> f.size(0), -2);
        refused("size, above", BoundaryRefusalsTest::provedKinds, f -> f.size(201), -2);
        refused("size, there is that one", BoundaryRefusalsTest::provedKinds, f -> f.size(3), -5);
        refused("size, full", BoundaryRefusalsTest::provedFull, f -> f.size(2), -4);
        refused("size, full, there is that one", BoundaryRefusalsTest::provedFull, f -> f.size(3), -4);
        refused("price, below", BoundaryRefusalsTest::provedKinds, f -> f.price(-1), -2);
        refused("price, above", BoundaryRefusalsTest::provedFull, f -> f.price(1001), -2);
        refused("price of a new object", LightFrame::new, f -> f.price(MIN), -2);
    }

    private static void refusedDrops() {
        Due.sentence("Terms: They change nothing (drop)");
        refused("drop of a new object", LightFrame::new, f -> f.drop(), -1);
        refused("drop, no bars", Given::sixJoints, f -> f.drop(), -1);
        Supplier<LightFrame> dropped = () -> {
            LightFrame f = Given.noRows();
            f.drop();
            f.prove();
            return f;
        };
        refused("drop, no bars any more", dropped, f -> f.drop(), -1);
    }

    private static void refusedQuestions() {
        Due.sentence("Terms: They change nothing (questions)");
        refused("about, unknown", BoundaryRefusalsTest::provedKinds, f -> f.about(5, 0), -101);
        refused("about, outside", BoundaryRefusalsTest::provedKinds, f -> f.about(0, 5), -102);
        refused("ofBar, unknown", BoundaryRefusalsTest::provedKinds, f -> f.ofBar(6, 0), -1);
        refused("ofBar, outside", BoundaryRefusalsTest::provedKinds, f -> f.ofBar(0, 3), -2);
        refused("cross, unknown", BoundaryRefusalsTest::provedKinds, f -> f.cross(0, 6), -1);
        refused("cross, one and the same", BoundaryRefusalsTest::provedKinds, f -> f.cross(2, 2), -1);
        refused("stiff, below", BoundaryRefusalsTest::provedKinds, f -> f.stiff(-1), -2);
        refused("stiff, above", BoundaryRefusalsTest::provedKinds, f -> f.stiff(64), -2);
        refused("frame", BoundaryRefusalsTest::provedKinds, f -> f.frame(4), -2);
        refused("cost", BoundaryRefusalsTest::provedKinds, f -> f.cost(0, 2), LOST - 2);
        refused("pull", BoundaryRefusalsTest::provedKinds, f -> f.pull(0, 6, 0), LOST - 1);
        refused("used", BoundaryRefusalsTest::provedKinds, f -> f.used(0, 2), -2);
        refused("sized", BoundaryRefusalsTest::provedKinds, f -> f.sized(6), -1);
        refused("field", BoundaryRefusalsTest::provedKinds, f -> f.field(5, 0, 0), LOST - 1);
        refused("slack", BoundaryRefusalsTest::provedKinds, f -> f.slack(0, 2), LOST - 2);
        refused("told", BoundaryRefusalsTest::provedKinds, f -> f.told(5), -2);
        refused("prove, none", Given::loose, f -> f.prove(), -6);
    }

    private static void questionsChangeNothing() {
        Due.sentence("Not promised: Nothing beyond the answers and state changes described (questions)");
        refused("about", BoundaryRefusalsTest::provedFull, f -> f.about(0, 3), 20);
        refused("cross", BoundaryRefusalsTest::provedFull, f -> f.cross(4, 5), 1);
        refused("stiff", BoundaryRefusalsTest::provedFull, f -> f.stiff(1023), 1);
        refused("stiff, not", BoundaryRefusalsTest::provedFull, f -> f.stiff(0), 0);
        refused("frame", BoundaryRefusalsTest::provedKinds, f -> f.frame(3), 58);
        refused("cost", BoundaryRefusalsTest::provedKinds, f -> f.cost(3, 1), 3);
        refused("sized", BoundaryRefusalsTest::provedKinds, f -> f.sized(3), 3);
        refused("prove", BoundaryRefusalsTest::provedKinds, f -> f.prove(), 15);
        refused("told", BoundaryRefusalsTest::provedKinds, f -> f.told(4), 20);
    }

    /** What is told leaves all else that was told. */
    private static void tellingChangesOneThing() {
        Due.sentence("Not promised: Nothing beyond the answers and state changes described (what is told)");
        LightFrame f = Given.fourKinds();
        Due.due("joint", f.joint(6, 6, false), 5);
        Due.due("bar", f.bar(5, 0), 6);
        Due.due("size", f.size(9), 3);
        Due.due("price", f.price(3), 20);
        Due.due("load", f.load(5, 7, -8), 1);
        Due.due("drop", f.drop(), 6);
        long[] told = {6, 3, 6, 3, 3};
        for (int what = 0; what < 5; what++) {
            Due.due("told " + what, f.told(what), told[what]);
        }
        LightFrame before = Given.fourKinds();
        for (int i = 0; i < 25; i++) {
            Due.due("about", f.about(i / 5, i % 5), before.about(i / 5, i % 5));
        }
        for (int i = 0; i < 18; i++) {
            Due.due("ofBar", f.ofBar(i / 3, i % 3), before.ofBar(i / 3, i % 3));
        }
        Due.due("px", f.about(5, 3), 7);
        Due.due("py", f.about(5, 4), -8);
    }

    private static void objectsAreApart() {
        Due.sentence("1: A new object (what one is told, another is not)");
        LightFrame one = Given.fourKinds();
        LightFrame other = Given.fourKinds();
        one.prove();
        Due.due("the other is not proved", other.field(0, 0, 0), LOST - 3);
        other.drop();
        other.load(0, 20, 20);
        other.price(0);
        Due.due("bars", one.told(2), 6);
        Due.due("load", one.about(0, 3), 2);
        Due.due("proved", one.field(0, 0, 0), 14);
        Due.due("frame", one.frame(3), 58);
    }

    private static void nothingIsThrown() {
        Due.sentence("The public face: no call throws");
        for (int a : Given.EDGES) {
            for (int b : Given.EDGES) {
                LightFrame[] all = {new LightFrame(), Given.noRows(), Given.loose(), provedKinds(), provedFull()};
                for (int i = 0; i < all.length; i++) {
                    Due.due("object " + i + ", numbers " + a + " " + b, thrown(all[i], a, b), 0);
                }
            }
        }
    }

    private static int thrown(LightFrame f, int a, int b) {
        try {
            f.field(a, b, a);
            f.field(0, a, b);
            f.slack(a, b);
            f.pull(a, b, 0);
            f.pull(0, a, b);
            f.cost(a, b);
            f.used(a, b);
            f.sized(a);
            f.frame(a);
            f.stiff(a);
            f.cross(a, b);
            f.about(a, b);
            f.ofBar(a, b);
            f.told(a);
            f.load(a, b, a);
            f.load(0, a, b);
            f.size(a);
            f.price(b);
            f.bar(a, b);
            f.joint(a, b, true);
            f.joint(b, a, false);
            f.prove();
            f.choices();
            f.drop();
            f.slack(b, a);
            return 0;
        } catch (RuntimeException thrown) {
            return 1;
        }
    }
}
