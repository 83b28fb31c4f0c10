/** The bounds of the proof, its field and slack: promises 18 to 20, part 3 of the terms, and the constants. */
public final class BoundaryPart3Test {
    private static final int[] EDGES = Given.EDGES;
    private static final long LOST = Due.LOST;

    public static void main(String[] args) {
        constants();
        proveNone();
        proveWithoutRows();
        proveFindsTheChoice();
        choicesInOrder();
        signsInOrder();
        signsOfUsedBars();
        signsByTheirOrder();
        stuffAtMost();
        loadsTimesField();
        fieldOfFixed();
        fieldSweep();
        fieldFractions();
        fieldStateAhead();
        fieldOfTheLatest();
        toldEndsField();
        refusedKeepsField();
        slackSweep();
        slackOfSize();
        slackFractions();
        slackStateAhead();
        greatestField();
        Due.end();
    }

    private static void field(LightFrame f, int joint, int which, long top, long bottom) {
        String call = "field of joint " + joint + (which == 0 ? ", u" : ", v");
        Due.dueFraction(call, f.field(joint, which, 0), f.field(joint, which, 1), top, bottom);
    }

    private static void slack(LightFrame f, int bar, long top, long bottom) {
        Due.dueFraction("slack of bar " + bar, f.slack(bar, 0), f.slack(bar, 1), top, bottom);
    }

    private static void constants() {
        Due.sentence("The constants: NONE, UNKNOWN, OUTSIDE, STATE, FULL, NO, LOST");
        Due.due("NONE", LightFrame.NONE, -6);
        Due.due("UNKNOWN", LightFrame.UNKNOWN, -1);
        Due.due("OUTSIDE", LightFrame.OUTSIDE, -2);
        Due.due("STATE", LightFrame.STATE, -3);
        Due.due("FULL", LightFrame.FULL, -4);
        Due.due("NO", LightFrame.NO, -5);
        Due.due("LOST", LightFrame.LOST, -1000000000000000L);
        Due.sentence("The constants: What is told of fractions that are refused: LOST and the refusal");
        LightFrame f = Given.loose();
        Due.due("cost", f.cost(0, 0), LightFrame.LOST + LightFrame.NONE);
        Due.due("cost outside", f.cost(4, 0), LightFrame.LOST + LightFrame.OUTSIDE);
        Due.due("pull", f.pull(0, 1, 0), LightFrame.LOST + LightFrame.UNKNOWN);
        Due.due("field", f.field(0, 0, 0), LightFrame.LOST + LightFrame.STATE);
    }

    private static void proveNone() {
        Due.sentence("18: NONE: there is no FRAME, or none was found");
        LightFrame f = Given.loose();
        Due.due("one bar for two rows", f.prove(), -6);
        Due.due("again", f.prove(), -6);
        Due.due("no field", f.field(0, 0, 0), LOST - 3);
        Due.due("no slack", f.slack(0, 0), LOST - 3);
        f.joint(0, 3, true);
        f.bar(0, 2);
        Due.due("held", f.prove(), 3);
        field(f, 0, 0, 3, 1);
        f.drop();
        Due.due("loose again", f.prove(), -6);
        Due.due("no field again", f.field(0, 0, 0), LOST - 3);
        Due.due("on one line", Given.fan(3, 0, 0, 0, 6, 0).prove(), -6);
        LightFrame crossed = Given.fourKinds();
        Due.due("kind 0 alone counts", crossed.prove(), crossed.frame(0));
        LightFrame noSizes = Given.tripod(4, -6);
        Due.due("no frame of kind 2", noSizes.frame(2), -6);
        Due.due("proved nevertheless", noSizes.prove(), 6);
    }

    private static void proveWithoutRows() {
        Due.sentence("18: the BARS of its CHOICE as bits (R 0: the empty CHOICE)");
        LightFrame empty = new LightFrame();
        Due.due("new", empty.prove(), 0);
        Due.due("no joint", empty.field(0, 0, 0), LOST - 1);
        Due.due("no bar", empty.slack(0, 0), LOST - 1);
        LightFrame f = Given.noRows();
        Due.due("fixed joints alone", f.prove(), 0);
        for (int joint = 0; joint < 2; joint++) {
            field(f, joint, 0, 0, 1);
            field(f, joint, 1, 0, 1);
        }
        slack(f, 0, 72, 1);
    }

    private static void proveFindsTheChoice() {
        Due.sentence("18: THE PROOF is looked for: the BARS of its CHOICE as bits");
        Due.due("one free joint", Given.tripod(4, -6).prove(), 6);
        Due.due("two free joints", Given.fourKinds().prove(), 15);
        Due.due("no load", Given.tripod(0, 0).prove(), 3);
        LightFrame f = Given.full();
        int bars = f.prove();
        Due.due("three free joints: as many bars as rows", Integer.bitCount(bars), 6);
        Due.due("again", f.prove(), bars);
    }

    private static void choicesInOrder() {
        Due.sentence("Terms 3: It is looked for by CHOICES with that COST, in order; the first that is good");
        // Bar 3 bears all. With bar 1 beside it no sign is good, with bar 2 the first one is.
        LightFrame f = Given.fan(0, 0, 6, 0, 5, 2, 0, 6, 2, 0);
        f.load(0, -1, 0);
        Due.due("the frame", f.frame(0), 10);
        Due.due("a later choice proves it", f.prove(), 12);
        field(f, 0, 0, -2, 1);
        field(f, 0, 1, -6, 1);
        LightFrame alike = Given.fan(2, 0, 0, 1, 4, 1, 0, 4, 4, 4);
        alike.load(0, 0, -5);
        Due.due("four choices alike: the first", alike.prove(), 3);
        LightFrame turned = Given.fan(2, 0, 0, 1, 0, 4, 4, 4, 4, 1);
        turned.load(0, 0, -5);
        Due.due("bars 0 and 1 cost more: the second", turned.prove(), 5);
    }

    private static void signsInOrder() {
        Due.sentence("Terms 3: by signs of BARS that are not USED (as bits by their order in it: 0 plus, 1 minus)");
        LightFrame plus = Given.fan(0, 0, 2, 0, 0, 3);
        Due.due("no other bar", plus.prove(), 3);
        field(plus, 0, 0, -2, 1);
        field(plus, 0, 1, -3, 1);
        // Bar 2 is good only where bars 0 and 1 have unlike signs: the first such has minus for bar 0.
        LightFrame f = Given.fan(0, 0, 2, 0, 0, 2, 1, 1);
        Due.due("its choice", f.prove(), 3);
        field(f, 0, 0, 2, 1);
        field(f, 0, 1, -2, 1);
        slack(f, 2, 2, 1);
        LightFrame turned = Given.fan(0, 0, 0, 2, 2, 0, 1, 1);
        Due.due("the other order", turned.prove(), 3);
        field(turned, 0, 0, -2, 1);
        field(turned, 0, 1, 2, 1);
    }

    private static void signsOfUsedBars() {
        Due.sentence("Terms 3: each BAR of the CHOICE comes to its STUFF, with the sign of its PULL");
        for (int sign = -1; sign <= 1; sign += 2) {
            LightFrame f = Given.fan(0, 0, 2, 0, 0, 2, 1, 1);
            f.load(0, sign, 0);
            Due.due("its choice", f.prove(), 3);
            Due.dueFraction("pull", f.pull(0, 0, 0), f.pull(0, 0, 1), -sign, 2);
            field(f, 0, 0, 2 * sign, 1);
            field(f, 0, 1, -2 * sign, 1);
            slack(f, 0, 0, 1);
            slack(f, 1, 0, 1);
            slack(f, 2, 2, 1);
        }
        LightFrame both = Given.tripod(4, -6);
        both.prove();
        field(both, 0, 0, 3, 1);
        field(both, 0, 1, -3, 1);
        both.load(0, -4, 6);
        both.prove();
        field(both, 0, 0, -3, 1);
        field(both, 0, 1, 3, 1);
    }

    /** Two free joints, each as in signsInOrder(). */
    private static LightFrame twice() {
        LightFrame f = new LightFrame();
        f.joint(0, 0, false);
        f.joint(2, 2, false);
        f.joint(2, 0, true);
        f.joint(0, 2, true);
        f.joint(1, 1, true);
        f.bar(0, 2);
        f.bar(0, 3);
        f.bar(1, 2);
        f.bar(1, 3);
        f.bar(0, 4);
        f.bar(1, 4);
        return f;
    }

    private static void signsByTheirOrder() {
        Due.sentence("Terms 3: (as bits by their order in it, from 0 on: 0 plus, 1 minus) (four and three of them)");
        LightFrame f = twice();
        Due.due("no load", f.prove(), 15);
        field(f, 0, 0, 2, 1);
        field(f, 0, 1, -2, 1);
        field(f, 1, 0, 2, 1);
        field(f, 1, 1, -2, 1);
        f.load(0, -1, 0);
        Due.due("bar 0 is used", f.prove(), 15);
        field(f, 0, 0, -2, 1);
        field(f, 0, 1, 2, 1);
        field(f, 1, 0, 2, 1);
        field(f, 1, 1, -2, 1);
        f.load(0, 0, 0);
        f.load(1, 0, -1);
        Due.due("bar 2 is used", f.prove(), 15);
        field(f, 0, 0, 2, 1);
        field(f, 0, 1, -2, 1);
        field(f, 1, 0, 2, 1);
        field(f, 1, 1, -2, 1);
        f.load(1, 0, 1);
        Due.due("bar 2 is used, turned", f.prove(), 15);
        field(f, 0, 0, 2, 1);
        field(f, 1, 0, -2, 1);
        field(f, 1, 1, 2, 1);
    }

    private static void stuffAtMost() {
        Due.sentence("Terms 3: is its STUFF at most");
        LightFrame alike = Given.fan(2, 0, 0, 1, 4, 1, 0, 4, 4, 4);
        alike.load(0, 0, -5);
        alike.prove();
        for (int bar = 0; bar < 4; bar++) {
            slack(alike, bar, 0, 1);
        }
        // The straight bar 2 is tight by itself where it is as long as the others ask for, and out where it is shorter.
        int[] heights = {2, 3};
        for (int height : heights) {
            LightFrame f = Given.fan(3, 0, 2, 1, 4, 1, 3, height);
            f.load(0, 0, -6);
            Due.due("height " + height, f.prove(), 3);
            field(f, 0, 1, -2, 1);
            slack(f, 2, height * height - 2 * height, 1);
        }
        LightFrame shorter = Given.fan(3, 0, 2, 1, 4, 1, 3, 1);
        shorter.load(0, 0, -6);
        Due.due("shorter", shorter.prove(), 5);
        Due.due("shorter is lighter", shorter.frame(0), 5);
    }

    private static void loadsTimesField() {
        Due.sentence("Terms 3: LOADS times the FIELD together are the COST of THE FRAME of KIND 0");
        LightFrame f = Given.fourKinds();
        Due.due("its choice", f.prove(), 15);
        long[][] field = {{14, -6}, {6, 2}};
        long work = 0;
        for (int joint = 0; joint < 2; joint++) {
            for (int which = 0; which < 2; which++) {
                field(f, joint, which, field[joint][which], 1);
                work += f.about(joint, 3 + which) * f.field(joint, which, 0);
            }
        }
        Due.due("loads times field", work, f.cost(0, 0));
        long[] slacks = {0, 0, 0, 0, 16, 4};
        for (int bar = 0; bar < 6; bar++) {
            slack(f, bar, slacks[bar], 1);
        }
    }

    private static void fieldOfFixed() {
        Due.sentence("Terms 3: two numbers u, v for each JOINT (0 for FIXED ones)");
        LightFrame f = new LightFrame();
        f.joint(0, 0, true);
        f.joint(3, 3, false);
        f.joint(6, 0, true);
        f.joint(3, 6, true);
        f.bar(1, 0);
        f.bar(1, 2);
        f.load(1, 0, -6);
        f.prove();
        for (int joint = 0; joint < 4; joint++) {
            field(f, joint, 0, 0, 1);
            field(f, joint, 1, joint == 1 ? -6 : 0, 1);
        }
    }

    private static void fieldSweep() {
        Due.sentence("19: of a JOINT u (0), v (1): upper (part = 0), lower number (1). (UNKNOWN; OUTSIDE)");
        long[][] want = {{14, -6}, {6, 2}, {0, 0}, {0, 0}, {0, 0}};
        for (int number : EDGES) {
            LightFrame f = Given.proved(Given.fourKinds());
            boolean known = Given.isIn(number, 0, 4);
            Due.due("joint " + number, f.field(number, 1, 0), known ? want[number][1] : LOST - 1);
            Due.due("joint " + number + ", lower", f.field(number, 0, 1), known ? 1 : LOST - 1);
            Due.due("joint " + number + ", wrong which", f.field(number, 2, 0), known ? LOST - 2 : LOST - 1);
            Due.due("joint " + number + ", wrong part", f.field(number, 0, -1), known ? LOST - 2 : LOST - 1);
            boolean good = Given.isIn(number, 0, 1);
            Due.due("which " + number, f.field(0, number, 0), good ? want[0][number] : LOST - 2);
            Due.due("which " + number + ", fixed", f.field(3, number, 0), good ? 0 : LOST - 2);
            Due.due("part " + number, f.field(1, 0, number), good ? 6 - 5 * number : LOST - 2);
            Due.due("part " + number + ", fixed", f.field(3, 1, number), good ? number : LOST - 2);
            Due.due("which and part " + number, f.field(0, number, 2), LOST - 2);
        }
    }

    private static void fieldFractions() {
        Due.sentence("Terms: Fractions are told in lowest terms, the lower number above 0 (19)");
        for (int sign = -1; sign <= 1; sign += 2) {
            LightFrame f = Given.fan(0, 0, 1, 2, 4, 1);
            f.load(0, -sign, 0);
            f.prove();
            field(f, 0, 0, -39 * sign, 7);
            field(f, 0, 1, 37 * sign, 7);
            LightFrame turned = Given.fan(0, 0, 4, 1, 1, 2);
            turned.load(0, -sign, 0);
            turned.prove();
            field(turned, 0, 0, -39 * sign, 7);
            field(turned, 0, 1, 37 * sign, 7);
        }
        LightFrame whole = Given.tripod(4, -6);
        whole.prove();
        field(whole, 0, 0, 3, 1);
    }

    private static void fieldStateAhead() {
        Due.sentence("19: STATE: LOST less 3, ahead: none was found since something was told");
        for (int number : EDGES) {
            LightFrame f = Given.fourKinds();
            for (int other : EDGES) {
                Due.due("field " + number + " " + other, f.field(number, other, number), LOST - 3);
            }
            Due.due("a new object", new LightFrame().field(number, 0, 0), LOST - 3);
        }
    }

    private static void fieldOfTheLatest() {
        Due.sentence("19: THE FIELD of the latest prove()");
        LightFrame f = Given.tripod(4, -6);
        f.prove();
        field(f, 0, 0, 3, 1);
        f.load(0, 0, -6);
        Due.due("prove", f.prove(), 5);
        field(f, 0, 0, -3, 1);
        field(f, 0, 1, -3, 1);
        f.drop();
        Due.due("prove", f.prove(), 3);
        field(f, 0, 0, 0, 1);
        field(f, 0, 1, -6, 1);
    }

    private static LightFrame provedTripod() {
        LightFrame f = Given.tripod(4, -6);
        f.size(7);
        f.price(7);
        Due.due("prove", f.prove(), 6);
        field(f, 0, 0, 3, 1);
        return f;
    }

    private static void dueEnded(String call, LightFrame f) {
        Due.due("field after " + call, f.field(0, 0, 0), LOST - 3);
        Due.due("slack after " + call, f.slack(0, 0), LOST - 3);
        Due.due("field after " + call + ", unknown joint", f.field(9, 0, 0), LOST - 3);
    }

    private static void toldEndsField() {
        Due.sentence("19: none was found since something was told");
        LightFrame f = provedTripod();
        f.joint(6, 6, true);
        dueEnded("a fixed joint", f);
        Due.due("prove", f.prove(), 6);
        field(f, 0, 0, 3, 1);
        f = provedTripod();
        f.joint(6, 6, false);
        dueEnded("a free joint", f);
        Due.due("prove", f.prove(), -6);
        dueEnded("a prove that finds none", f);
        f = provedTripod();
        f.bar(1, 2);
        dueEnded("a bar", f);
        Due.due("prove", f.prove(), 6);
        slack(f, 3, 36, 1);
        f = provedTripod();
        f.load(0, 4, -5);
        dueEnded("a load", f);
        f = provedTripod();
        f.load(0, 4, -6);
        dueEnded("a load as it was", f);
        f = provedTripod();
        f.size(1);
        dueEnded("a size", f);
        f = provedTripod();
        f.price(8);
        dueEnded("a price", f);
        f = provedTripod();
        f.price(7);
        dueEnded("a price as it was", f);
        f = provedTripod();
        f.drop();
        dueEnded("a drop", f);
    }

    private static void refusedKeepsField() {
        Due.sentence("Terms: They change nothing (the FIELD stays)");
        LightFrame f = provedTripod();
        int[] refused = {f.joint(7, 0, true), f.joint(0, 0, true), f.bar(0, 0), f.bar(0, 1), f.bar(0, 4),
            f.load(1, 0, 0), f.load(0, 21, 0), f.load(4, 0, 0), f.size(7), f.size(0), f.price(-1), f.price(1001)};
        for (int answer : refused) {
            Due.due("refused", answer < 0 ? 1 : 0, 1);
        }
        field(f, 0, 0, 3, 1);
        field(f, 0, 1, -3, 1);
        slack(f, 0, 18, 1);
    }

    private static void slackSweep() {
        Due.sentence("20: of a BAR: upper, lower number, likewise (UNKNOWN; OUTSIDE)");
        long[] want = {0, 0, 0, 0, 16, 4};
        for (int number : EDGES) {
            LightFrame f = Given.proved(Given.fourKinds());
            boolean known = Given.isIn(number, 0, 5);
            Due.due("bar " + number, f.slack(number, 0), known ? want[number] : LOST - 1);
            Due.due("bar " + number + ", lower", f.slack(number, 1), known ? 1 : LOST - 1);
            Due.due("bar " + number + ", part above", f.slack(number, 2), known ? LOST - 2 : LOST - 1);
            Due.due("bar " + number + ", part below", f.slack(number, -1), known ? LOST - 2 : LOST - 1);
            Due.due("part " + number, f.slack(4, number), Given.isIn(number, 0, 1) ? 16 - 15 * number : LOST - 2);
        }
    }

    private static void slackOfSize() {
        Due.sentence("20: By how much a BAR's number in THE FIELD is below its STUFF (of its size)");
        LightFrame f = Given.fan(3, 3, 0, 0, 6, 0, 0, 6, 6, 6);
        f.load(0, 0, -6);
        Due.due("prove", f.prove(), 3);
        field(f, 0, 1, -6, 1);
        for (int bar = 0; bar < 4; bar++) {
            slack(f, bar, 0, 1);
        }
        // The field is 0, -6: the number of bar 2 is above 0, that of bar 3 below.
        f = Given.fan(3, 3, 0, 0, 6, 0, 6, 5, 6, 2);
        f.load(0, 0, -6);
        Due.due("prove", f.prove(), 3);
        slack(f, 2, 13 - 12, 1);
        slack(f, 3, 10 - 6, 1);
        f.bar(1, 2);
        f.prove();
        slack(f, 4, 36, 1);
    }

    private static void slackFractions() {
        Due.sentence("Terms: Fractions are told in lowest terms, the lower number above 0 (20)");
        for (int sign = -1; sign <= 1; sign += 2) {
            LightFrame f = Given.fan(0, 0, 1, 2, 4, 1, 3, 3);
            f.load(0, -sign, 0);
            Due.due("prove", f.prove(), 3);
            slack(f, 0, 0, 1);
            slack(f, 1, 0, 1);
            slack(f, 2, 120, 7);
            LightFrame turned = Given.fan(0, 0, 4, 1, 1, 2, 3, 3);
            turned.load(0, -sign, 0);
            Due.due("prove", turned.prove(), 3);
            slack(turned, 2, 120, 7);
        }
    }

    private static void slackStateAhead() {
        Due.sentence("20: likewise (STATE: LOST less 3, ahead)");
        for (int number : EDGES) {
            LightFrame f = Given.fourKinds();
            for (int other : EDGES) {
                Due.due("slack " + number + " " + other, f.slack(number, other), LOST - 3);
            }
        }
    }

    private static void greatestField() {
        Due.sentence("Terms 3: the FIELD for which each BAR of the CHOICE comes to its STUFF (far numbers)");
        LightFrame f = new LightFrame();
        int[] places = {5, 0, 1, 5, 0, 6, 6, 6, 4, 5, 6, 5};
        for (int i = 0; i < 6; i++) {
            f.joint(places[2 * i], places[2 * i + 1], i >= 3);
        }
        int[] ends = {0, 3, 1, 2, 0, 1, 1, 5, 0, 2, 2, 5};
        for (int i = 0; i < 6; i++) {
            f.bar(ends[2 * i], ends[2 * i + 1]);
        }
        f.load(0, 20, -20);
        f.load(1, 19, -20);
        f.load(2, -17, -20);
        Due.dueFraction("cost", f.cost(0, 0), f.cost(0, 1), 1443783, 1);
        Due.dueFraction("pull", f.pull(0, 3, 0), f.pull(0, 3, 1), -12871, 5);
        Due.due("prove", f.prove(), 63);
        long[] want = {20861, -3483, 5, -20176, -4044, -24227};
        for (int i = 0; i < 6; i++) {
            field(f, i / 2, i % 2, want[i], 1);
            slack(f, i, 0, 1);
        }
    }
}
