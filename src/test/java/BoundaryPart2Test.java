/** The bounds of choices and of frames of all kinds: promises 13 to 17, and part 2 of the terms. */
public final class BoundaryPart2Test {
    private static final int[] EDGES = Given.EDGES;
    private static final long LOST = Due.LOST;

    public static void main(String[] args) {
        rowsHaveOneAnswer();
        orderOfChoices();
        firstOfSeveral();
        usedIfPullIsNot0();
        usedJointsAtUsedBars();
        kind0Sums();
        kind1UsedBarsAlone();
        kind1TouchingBars();
        kind1OneOverTheOther();
        kind2LeastNotBelow();
        kind2Fractions();
        kind2GreatestSize();
        kind2ChoicesThatHaveSizes();
        kind2WithoutSizes();
        kind3PriceOfJoints();
        kind3PriceOfNone();
        noRowsEmptyChoice();
        frameOfKinds();
        frameNone();
        costOfKinds();
        costNone();
        pullOfBars();
        pullNone();
        usedOfKinds();
        usedNone();
        sizedBars();
        sizedNone();
        lowestTerms();
        lowerNumberAbove0();
        greatestNumbers();
        framesFollowWhatIsTold();
        upTo512Calls();
        Due.end();
    }

    private static void cost(LightFrame f, int kind, long top, long bottom) {
        Due.dueFraction("cost of kind " + kind, f.cost(kind, 0), f.cost(kind, 1), top, bottom);
    }

    private static void pull(LightFrame f, int kind, int bar, long top, long bottom) {
        Due.dueFraction("pull of bar " + bar + ", kind " + kind, f.pull(kind, bar, 0), f.pull(kind, bar, 1), top, bottom);
    }

    private static void rowsHaveOneAnswer() {
        Due.sentence("Terms 2: for which the ROWS have one answer whatever the LOADS");
        LightFrame line = Given.fan(3, 0, 0, 0, 6, 0);
        Due.due("on one line, no load", line.frame(0), -6);
        line.load(0, 5, 0);
        Due.due("on one line, load along it", line.frame(0), -6);
        line.load(0, 0, 5);
        Due.due("on one line, load across", line.frame(0), -6);
        LightFrame bent = Given.fan(3, 1, 0, 0, 6, 0);
        bent.load(0, 0, 1);
        Due.due("just off the line", bent.frame(0), 3);
        LightFrame unused = Given.fan(3, 0, 0, 0, 6, 0, 3, 6);
        Due.due("the first that is no line, though bars 0 and 1 bear no less", unused.frame(0), 5);
        unused.load(0, -3, 0);
        Due.due("the first that is no line", unused.frame(0), 5);
        Due.due("choices", unused.choices(), 2);
    }

    private static void orderOfChoices() {
        Due.sentence("Terms 2: in order by the least BAR that only one of both has: the one that has it is ahead");
        // Bar 3 alone costs as much as bars 1 and 2: bars 0 and 3 are ahead of bars 1 and 2 (as bits: 9 and 6).
        LightFrame f = Given.fan(1, 2, 4, 0, 1, 1, 3, 2, 3, 3);
        f.load(0, -2, -1);
        f.size(3);
        for (int kind = 0; kind < 4; kind++) {
            Due.due("kind " + kind, f.frame(kind), 9);
            cost(f, kind, kind == 2 ? 15 : 5, 1);
        }
        f.drop();
        for (int kind = 0; kind < 4; kind++) {
            Due.due("without bar 3, kind " + kind, f.frame(kind), 6);
            cost(f, kind, kind == 2 ? 15 : 5, 1);
        }
        LightFrame far = Given.fan(3, 4, 1, 1, 4, 2, 4, 4, 3, 1);
        far.load(0, 0, 2);
        Due.due("bars 0 and 3, 1 and 2, 1 and 3, 2 and 3 alike", far.frame(0), 9);
        cost(far, 0, 6, 1);
        Due.due("without crossing", far.frame(1), 9);
    }

    private static void firstOfSeveral() {
        Due.sentence("Terms 2: THE FRAME of a KIND is the CHOICE with the least COST, of several the first");
        LightFrame f = Given.fan(3, 3, 0, 3, 6, 3, 3, 0, 3, 6);
        Due.due("no load: choices", f.choices(), 4);
        for (int kind = 0; kind < 4; kind++) {
            Due.due("no load: the first choice, kind " + kind, f.frame(kind), 5);
        }
        f.load(0, 3, 0);
        Due.due("bar 0 or bar 1 with any other", f.frame(0), 5);
        pull(f, 0, 0, 1, 1);
        LightFrame later = Given.fan(3, 3, 0, 3, 3, 0, 5, 3, 3, 5);
        later.load(0, 2, 2);
        Due.due("the least is the last", later.frame(0), 12);
        cost(later, 0, 8, 1);
        later.load(0, 2, 0);
        Due.due("the least is one of the middle", later.frame(0), 6);
        cost(later, 0, 4, 1);
    }

    private static void usedIfPullIsNot0() {
        Due.sentence("Terms 2: A BAR of it is USED, if its PULL is not 0");
        LightFrame f = Given.tripod(0, -6);
        Due.due("frame", f.frame(0), 5);
        Due.due("used: bar 2 alone", f.used(0, 0), 4);
        f.load(0, 0, 0);
        Due.due("no load", f.used(0, 0), 0);
        f.load(0, 1, -6);
        Due.due("a small load aside", f.used(0, 0), 6);
        f.load(0, -1, -6);
        Due.due("to the other side", f.used(0, 0), 5);
        f.load(0, 1, 1);
        Due.due("along bar 0", f.used(0, 0), 1);
        LightFrame near = Given.fan(0, 0, 6, 5, 5, 4);
        near.load(0, 5, 4);
        Due.due("along bar 1, bar 0 close to it", near.used(0, 0), 2);
        near.load(0, 6, 4);
        Due.due("just off", near.used(0, 0), 3);
    }

    private static void usedJointsAtUsedBars() {
        Due.sentence("Terms 2: JOINTS at USED BARS are USED");
        LightFrame f = Given.tripod(0, -6);
        Due.due("the free one and the one below", f.used(0, 1), 1 + 8);
        f.load(0, 1, -6);
        Due.due("three", f.used(0, 1), 1 + 4 + 8);
        f.load(0, 0, 0);
        Due.due("none, though the joint is held", f.used(0, 1), 0);
        f.joint(6, 6, true);
        f.load(0, 0, -6);
        Due.due("a joint without bars is not used", f.used(0, 1), 1 + 8);
        LightFrame chain = new LightFrame();
        chain.joint(1, 0, true);
        chain.joint(1, 2, false);
        chain.joint(1, 6, false);
        chain.joint(6, 2, true);
        chain.joint(6, 6, true);
        chain.bar(0, 1);
        chain.bar(2, 1);
        chain.bar(1, 3);
        chain.bar(4, 2);
        chain.load(2, 0, -8);
        Due.due("also a free one without a load", chain.used(0, 1), 1 + 2 + 4);
        chain.load(2, 0, 0);
        chain.load(1, 0, -8);
        Due.due("not a free one that bears nothing", chain.used(0, 1), 1 + 2);
    }

    private static void kind0Sums() {
        Due.sentence("Terms 2: 0 the sum of STUFF times the size of PULL over all BARS of the CHOICE");
        LightFrame f = Given.tripod(4, -6);
        Due.due("frame", f.frame(0), 6);
        cost(f, 0, 30, 1);
        f.load(0, -4, 6);
        Due.due("turned: frame", f.frame(0), 6);
        cost(f, 0, 30, 1);
        f.load(0, -4, -6);
        Due.due("mirrored: frame", f.frame(0), 5);
        cost(f, 0, 30, 1);
        f.load(0, 0, 0);
        cost(f, 0, 0, 1);
        LightFrame crossed = Given.fourKinds();
        Due.due("used bars may cross", crossed.cross(0, 1), 1);
        Due.due("used bars", crossed.used(0, 0), 15);
        cost(crossed, 0, 48, 1);
    }

    /** Bars 0 and 1 cross in the middle; there is no other choice than all four. */
    private static LightFrame crossedPair() {
        LightFrame f = new LightFrame();
        f.joint(2, 3, false);
        f.joint(4, 3, false);
        f.joint(0, 0, true);
        f.joint(6, 0, true);
        f.bar(0, 3);
        f.bar(1, 2);
        f.bar(0, 2);
        f.bar(1, 3);
        return f;
    }

    private static void kind1UsedBarsAlone() {
        Due.sentence("Terms 2: 1 that, of those CHOICES alone in which no two USED BARS CROSS");
        LightFrame f = crossedPair();
        Due.due("they cross", f.cross(0, 1), 1);
        Due.due("neither is used", f.frame(1), 15);
        cost(f, 1, 0, 1);
        f.load(0, -4, 3);
        Due.due("one is used", f.frame(1), 15);
        cost(f, 1, 25, 1);
        f.load(1, 4, 3);
        Due.due("both are used", f.frame(1), -6);
        Due.due("both are used, kind 0", f.frame(0), 15);
        cost(f, 0, 50, 1);
        f.load(0, 2, 3);
        Due.due("only the other is used", f.frame(1), 15);
        Due.due("used", f.used(1, 0), 2 + 4);
        LightFrame dearer = Given.fourKinds();
        Due.due("a dearer one that does not cross", dearer.frame(1), 46);
        cost(dearer, 1, 50, 1);
    }

    private static void kind1TouchingBars() {
        Due.sentence("Terms 2: a point together that is not an end of both (1: an end of one BAR on the other)");
        LightFrame f = new LightFrame();
        f.joint(0, 2, false);
        f.joint(3, 5, false);
        f.joint(6, 2, true);
        f.joint(3, 2, true);
        f.joint(0, 5, true);
        f.bar(0, 2);
        f.bar(1, 3);
        f.bar(0, 4);
        f.bar(1, 4);
        f.load(0, -6, 0);
        Due.due("bar 1 stands on bar 0", f.cross(0, 1), 1);
        Due.due("bars 0 and 2 meet at a joint", f.cross(0, 2), 0);
        Due.due("bar 1 is not used", f.frame(1), 15);
        f.load(1, 0, -3);
        Due.due("bar 1 is used", f.frame(1), -6);
        cost(f, 0, 36 + 9, 1);
        f.load(0, 0, -3);
        Due.due("bar 0 is not used", f.frame(1), 15);
        cost(f, 1, 9 + 9, 1);
    }

    private static void kind1OneOverTheOther() {
        Due.sentence("Terms 2: a point together that is not an end of both (2: one BAR over the other from one JOINT)");
        LightFrame f = new LightFrame();
        f.joint(0, 0, false);
        f.joint(6, 0, false);
        f.joint(3, 0, true);
        f.joint(0, 3, true);
        f.joint(6, 3, true);
        f.bar(0, 1);
        f.bar(0, 2);
        f.bar(0, 3);
        f.bar(1, 4);
        f.load(1, 6, 0);
        Due.due("over one another", f.cross(0, 1), 1);
        Due.due("both are used", f.frame(1), -6);
        pull(f, 0, 0, 1, 1);
        pull(f, 0, 1, -2, 1);
        f.load(0, -6, 0);
        Due.due("bar 1 is not used", f.frame(1), 15);
        cost(f, 1, 36, 1);
    }

    private static void kind2LeastNotBelow() {
        Due.sentence("Terms 2: the SIZE being the least of the list that is not below the size of PULL");
        for (int sign = -1; sign <= 1; sign += 2) {
            LightFrame f = Given.tripod(0, 6 * sign);
            f.size(2);
            Due.due("just as much", f.sized(2), 2);
            Due.due("frame", f.frame(2), 5);
            cost(f, 2, 18, 1);
            f.size(1);
            Due.due("1 is below", f.sized(2), 2);
            f.size(3);
            Due.due("3 is not the least", f.sized(2), 2);
            f.load(0, 0, 9 * sign);
            Due.due("now 3 is just as much", f.sized(2), 3);
            f.load(0, 0, 3 * sign);
            Due.due("now 1 is", f.sized(2), 1);
            cost(f, 2, 9, 1);
        }
    }

    private static void kind2Fractions() {
        Due.sentence("Terms 2: not below the size of PULL (fractions)");
        for (int sign = -1; sign <= 1; sign += 2) {
            LightFrame f = Given.tripod(0, 7 * sign);
            f.size(2);
            Due.due("7/3 is above 2: two bars of 7/6", f.frame(2), 3);
            Due.due("bar 0", f.sized(0), 2);
            Due.due("bar 2", f.sized(2), 0);
            cost(f, 2, 72, 1);
            f.size(3);
            Due.due("7/3 is below 3", f.sized(2), 3);
            Due.due("frame", f.frame(2), 5);
            cost(f, 2, 27, 1);
            f.load(0, 0, 5 * sign);
            Due.due("5/3 is below 2", f.sized(2), 2);
            f.load(0, 0, sign);
            Due.due("1/3 is below 2", f.sized(2), 2);
        }
    }

    private static void kind2GreatestSize() {
        Due.sentence("Terms 2: SIZES are whole (1 to 200) (the greatest PULL that one bears)");
        LightFrame f = Given.fan(0, 0, 6, 5, 5, 4);
        f.load(0, 16, -20);
        pull(f, 0, 0, 164, 1);
        pull(f, 0, 1, -200, 1);
        f.size(199);
        Due.due("199 is too small", f.frame(2), -6);
        f.size(200);
        Due.due("200 is enough", f.frame(2), 3);
        Due.due("bar 0", f.sized(0), 199);
        Due.due("bar 1", f.sized(1), 200);
        cost(f, 2, 61 * 199 + 41 * 200, 1);
        f.size(163);
        Due.due("163 is too small for 164", f.sized(0), 199);
        f.size(164);
        Due.due("164 is enough", f.sized(0), 164);
        cost(f, 2, 61 * 164 + 41 * 200, 1);
        cost(f, 0, 61 * 164 + 41 * 200, 1);
        f.load(0, 17, -20);
        Due.due("205 is too much", f.frame(2), -6);
        Due.due("sized", f.sized(0), -6);
        f.load(0, -16, 20);
        Due.due("turned: bar 0", f.sized(0), 164);
        Due.due("turned: bar 1", f.sized(1), 200);
    }

    private static void kind2ChoicesThatHaveSizes() {
        Due.sentence("Terms 2: of those CHOICES alone for which there are such");
        LightFrame f = Given.tripod(0, -6);
        f.size(1);
        Due.due("bar 2 would bear 2, bars 0 and 1 bear 1 each", f.frame(2), 3);
        cost(f, 2, 36, 1);
        Due.due("bar 0", f.sized(0), 1);
        Due.due("bar 2", f.sized(2), 0);
        f.load(0, 0, -7);
        Due.due("7/6 each is too much", f.frame(2), -6);
        f.load(0, 0, -3);
        Due.due("bar 2 bears 1", f.frame(2), 5);
        f.size(200);
        f.load(0, 0, -7);
        Due.due("200 bears all", f.frame(2), 5);
        cost(f, 2, 9 * 200, 1);
    }

    private static void kind2WithoutSizes() {
        Due.sentence("Terms 2: (0 for one that is not USED)");
        LightFrame f = Given.tripod(0, 0);
        Due.due("no load, no sizes", f.frame(2), 3);
        cost(f, 2, 0, 1);
        Due.due("bar 0", f.sized(0), 0);
        Due.due("bar 2", f.sized(2), 0);
        f.load(0, 0, -1);
        Due.due("a load, no sizes", f.frame(2), -6);
        f.size(200);
        Due.due("a load, a size", f.frame(2), 5);
        Due.due("bar 0 is in it and not used", f.sized(0), 0);
        Due.due("bar 1 is not in it", f.sized(1), 0);
        Due.due("bar 2 is used", f.sized(2), 200);
        cost(f, 2, 9 * 200, 1);
    }

    private static void kind3PriceOfJoints() {
        Due.sentence("Terms 2: 3 as 0, and PRICE for each USED JOINT");
        // Bar 0 straight up costs 36 with two joints; bars 1 and 2 cost 12 with three.
        LightFrame f = Given.fan(3, 0, 3, 6, 2, 1, 4, 1);
        f.load(0, 0, -6);
        int[] prices = {0, 23, 24, 25, 1000};
        long[] frames = {6, 6, 3, 3, 3};
        long[] costs = {12, 81, 84, 86, 2036};
        for (int i = 0; i < 5; i++) {
            f.price(prices[i]);
            Due.due("price " + prices[i], f.frame(3), frames[i]);
            cost(f, 3, costs[i], 1);
            cost(f, 0, 12, 1);
        }
        LightFrame turned = Given.fan(3, 0, 2, 1, 4, 1, 3, 6);
        turned.load(0, 0, -6);
        turned.price(24);
        Due.due("alike: the first", turned.frame(3), 3);
        cost(turned, 3, 84, 1);
        turned.price(25);
        Due.due("one joint less", turned.frame(3), 5);
        cost(turned, 3, 86, 1);
    }

    private static void kind3PriceOfNone() {
        Due.sentence("Terms 2: PRICE (0 to 1000; 0 at first)");
        LightFrame f = Given.tripod(0, 0);
        f.price(1000);
        cost(f, 3, 0, 1);
        f.load(0, 0, -6);
        cost(f, 3, 2018, 1);
        f.load(0, 4, -6);
        cost(f, 3, 3030, 1);
        f.price(1);
        cost(f, 3, 33, 1);
        cost(Given.tripod(4, -6), 3, 30, 1);
        LightFrame third = Given.fan(3, 3, 0, 1, 6, 1);
        third.load(0, 1, 0);
        third.price(1);
        cost(third, 3, 22, 3);
    }

    private static void noRowsEmptyChoice() {
        Due.sentence("Terms 2: (R 0: the empty CHOICE, COST 0.)");
        LightFrame[] all = {new LightFrame(), Given.noRows(), Given.noRows()};
        all[2].price(1000);
        all[2].size(200);
        for (LightFrame f : all) {
            Due.due("choices", f.choices(), 1);
            Due.due("stiff without bars", f.stiff(0), 1);
            for (int kind = 0; kind < 4; kind++) {
                Due.due("frame", f.frame(kind), 0);
                cost(f, kind, 0, 1);
                Due.due("used bars", f.used(kind, 0), 0);
                Due.due("used joints", f.used(kind, 1), 0);
            }
        }
        for (int kind = 0; kind < 4; kind++) {
            pull(all[1], kind, 0, 0, 1);
        }
        Due.due("sized", all[1].sized(0), 0);
        Due.due("stiff with a bar", all[1].stiff(1), 1);
        all[1].joint(3, 0, false);
        Due.due("a free joint: no more", all[1].frame(0), -6);
    }

    private static void frameOfKinds() {
        Due.sentence("13: THE FRAME of a KIND: its BARS as bits. OUTSIDE");
        long[] want = {15, 46, 27, 58};
        LightFrame f = Given.fourKinds();
        LightFrame loose = Given.loose();
        for (int kind : EDGES) {
            boolean good = Given.isIn(kind, 0, 3);
            Due.due("frame " + kind, f.frame(kind), good ? want[kind] : -2);
            Due.due("no choice, frame " + kind, loose.frame(kind), good ? -6 : -2);
        }
        LightFrame six = Given.tenBars();
        six.load(2, 0, -1);
        Due.due("as many bars as rows", Integer.bitCount(six.frame(0)), 6);
    }

    private static void frameNone() {
        Due.sentence("13: NONE: there is none");
        LightFrame crossed = crossedPair();
        crossed.load(0, -4, 3);
        crossed.load(1, 4, 3);
        crossed.size(200);
        long[] want = {15, -6, 15, 15};
        for (int kind = 0; kind < 4; kind++) {
            Due.due("crossed, kind " + kind, crossed.frame(kind), want[kind]);
        }
        LightFrame small = Given.tripod(0, -7);
        small.size(1);
        long[] due = {5, 5, -6, 5};
        for (int kind = 0; kind < 4; kind++) {
            Due.due("too small, kind " + kind, small.frame(kind), due[kind]);
        }
        LightFrame none = new LightFrame();
        none.joint(0, 0, false);
        for (int kind = 0; kind < 4; kind++) {
            Due.due("no bars, kind " + kind, none.frame(kind), -6);
        }
    }

    private static void costOfKinds() {
        Due.sentence("14: upper (what = 0), lower number (1). (OUTSIDE: LOST less 2)");
        long[][] want = {{48, 1}, {50, 1}, {72, 1}, {416, 3}};
        for (int kind : EDGES) {
            LightFrame f = Given.fourKinds();
            for (int what : EDGES) {
                boolean good = Given.isIn(kind, 0, 3) && Given.isIn(what, 0, 1);
                Due.due("cost " + kind + " " + what, f.cost(kind, what), good ? want[kind][what] : LOST - 2);
            }
        }
    }

    private static void costNone() {
        Due.sentence("14: NONE: LOST less 6");
        for (int kind : EDGES) {
            LightFrame f = Given.loose();
            for (int what : EDGES) {
                boolean good = Given.isIn(kind, 0, 3) && Given.isIn(what, 0, 1);
                Due.due("cost " + kind + " " + what, f.cost(kind, what), good ? LOST - 6 : LOST - 2);
            }
        }
        LightFrame f = crossedPair();
        f.load(0, -4, 3);
        f.load(1, 4, 3);
        cost(f, 1, LOST - 6, LOST - 6);
        cost(f, 2, LOST - 6, LOST - 6);
        cost(f, 3, 50, 1);
    }

    private static void pullOfBars() {
        Due.sentence("15: PULL of a BAR in THE FRAME of a KIND (0, if it is not in it), likewise");
        long[][][] want = {
            {{1, 2}, {-1, 1}, {-1, 3}, {3, 1}, {0, 1}, {0, 1}},
            {{0, 1}, {-2, 1}, {-1, 6}, {9, 2}, {0, 1}, {1, 2}},
            {{1, 1}, {-1, 1}, {0, 1}, {3, 1}, {-1, 1}, {0, 1}},
            {{0, 1}, {-7, 3}, {0, 1}, {5, 1}, {-1, 3}, {2, 3}}};
        for (int kind = 0; kind < 4; kind++) {
            LightFrame f = Given.fourKinds();
            for (int bar = 0; bar < 6; bar++) {
                pull(f, kind, bar, want[kind][bar][0], want[kind][bar][1]);
            }
        }
        for (int number : EDGES) {
            LightFrame f = Given.fourKinds();
            boolean known = Given.isIn(number, 0, 5);
            Due.due("bar " + number, f.pull(3, number, 0), known ? want[3][number][0] : LOST - 1);
            Due.due("bar " + number + ", wrong kind", f.pull(4, number, 0), known ? LOST - 2 : LOST - 1);
            Due.due("bar " + number + ", wrong part", f.pull(0, number, 2), known ? LOST - 2 : LOST - 1);
            Due.due("bar " + number + ", both wrong", f.pull(-1, number, -1), known ? LOST - 2 : LOST - 1);
            Due.due("kind " + number, f.pull(number, 3, 0), Given.isIn(number, 0, 3) ? want[number][3][0] : LOST - 2);
            Due.due("what " + number, f.pull(1, 3, number), Given.isIn(number, 0, 1) ? want[1][3][number] : LOST - 2);
        }
    }

    private static void pullNone() {
        Due.sentence("15: (UNKNOWN: LOST less 1.) and OUTSIDE, NONE likewise");
        LightFrame f = Given.loose();
        for (int number : EDGES) {
            Due.due("bar " + number, f.pull(0, number, 0), number == 0 ? LOST - 6 : LOST - 1);
            Due.due("kind " + number, f.pull(number, 0, 0), Given.isIn(number, 0, 3) ? LOST - 6 : LOST - 2);
            Due.due("what " + number, f.pull(0, 0, number), Given.isIn(number, 0, 1) ? LOST - 6 : LOST - 2);
        }
        Due.due("a bar between fixed joints is in none", Given.noRows().pull(0, 0, 1), 1);
        LightFrame held = Given.tripod(0, -6);
        held.bar(1, 2);
        pull(held, 0, 3, 0, 1);
        held.drop();
        Due.due("gone", held.pull(0, 3, 0), LOST - 1);
    }

    private static void usedOfKinds() {
        Due.sentence("16: USED BARS as bits (what = 0), USED JOINTS (1). OUTSIDE");
        long[][] want = {{15, 31}, {46, 31}, {27, 15}, {58, 15}};
        for (int kind : EDGES) {
            LightFrame f = Given.fourKinds();
            for (int what : EDGES) {
                boolean good = Given.isIn(kind, 0, 3) && Given.isIn(what, 0, 1);
                Due.due("used " + kind + " " + what, f.used(kind, what), good ? want[kind][what] : -2);
            }
        }
    }

    private static void usedNone() {
        Due.sentence("16: NONE");
        for (int kind : EDGES) {
            LightFrame f = Given.loose();
            for (int what : EDGES) {
                boolean good = Given.isIn(kind, 0, 3) && Given.isIn(what, 0, 1);
                Due.due("used " + kind + " " + what, f.used(kind, what), good ? -6 : -2);
            }
        }
        Due.due("a frame that uses none", Given.tripod(0, 0).used(0, 0), 0);
        Due.due("no sizes", Given.tripod(0, 1).used(2, 1), -6);
    }

    private static void sizedBars() {
        Due.sentence("17: SIZE of a BAR in THE FRAME of KIND 2 (0, if it is not USED). UNKNOWN");
        long[] want = {1, 1, 0, 3, 1, 0};
        LightFrame f = Given.fourKinds();
        for (int bar : EDGES) {
            Due.due("sized " + bar, f.sized(bar), Given.isIn(bar, 0, 5) ? want[bar] : -1);
        }
        f.drop();
        Due.due("gone", f.sized(5), -1);
    }

    private static void sizedNone() {
        Due.sentence("17: NONE: there is none");
        LightFrame loose = Given.loose();
        LightFrame small = Given.tripod(0, -7);
        small.size(1);
        for (int bar : EDGES) {
            Due.due("no choice, sized " + bar, loose.sized(bar), bar == 0 ? -6 : -1);
            Due.due("too small, sized " + bar, small.sized(bar), Given.isIn(bar, 0, 2) ? -6 : -1);
        }
        small.size(2);
        Due.due("large enough", small.sized(0), 2);
    }

    private static void lowestTerms() {
        Due.sentence("Terms: Fractions are told in lowest terms");
        LightFrame f = Given.fan(0, 0, 1, 2, 4, 1);
        f.load(0, -1, 0);
        pull(f, 0, 0, -1, 7);
        pull(f, 0, 1, 2, 7);
        cost(f, 0, 39, 7);
        f.load(0, -7, 0);
        pull(f, 0, 0, -1, 1);
        pull(f, 0, 1, 2, 1);
        cost(f, 0, 39, 1);
        f.load(0, 0, 0);
        pull(f, 0, 0, 0, 1);
        cost(f, 0, 0, 1);
        LightFrame half = Given.tripod(0, -2);
        pull(half, 0, 2, -2, 3);
        cost(half, 0, 6, 1);
        half.load(0, 2, 2);
        pull(half, 0, 0, 2, 3);
        cost(half, 0, 12, 1);
    }

    private static void lowerNumberAbove0() {
        Due.sentence("Terms: the lower number above 0");
        for (int turned = 0; turned < 2; turned++) {
            for (int sign = -1; sign <= 1; sign += 2) {
                LightFrame f = turned == 0 ? Given.fan(0, 0, 1, 2, 4, 1) : Given.fan(0, 0, 4, 1, 1, 2);
                f.load(0, sign, 0);
                pull(f, 0, turned, sign, 7);
                pull(f, 0, 1 - turned, -2 * sign, 7);
                cost(f, 0, 39, 7);
            }
        }
    }

    private static void greatestNumbers() {
        Due.sentence("Terms 1: px, py (-20 to 20) (the greatest of all)");
        LightFrame f = Given.fan(0, 0, 6, 5, 5, 4);
        f.load(0, 20, -20);
        pull(f, 0, 0, 180, 1);
        pull(f, 0, 1, -220, 1);
        cost(f, 0, 20000, 1);
        f.price(1000);
        cost(f, 3, 23000, 1);
        f.load(0, -20, 20);
        pull(f, 0, 0, -180, 1);
        pull(f, 0, 1, 220, 1);
        farPulls();
        greatLowerNumbers();
    }

    /** Three free joints whose bars are close to one line: each bears far more than the loads. */
    private static void farPulls() {
        LightFrame f = new LightFrame();
        int[] places = {5, 0, 0, 6, 5, 1, 6, 5, 4, 5, 5, 5};
        for (int i = 0; i < 6; i++) {
            f.joint(places[2 * i], places[2 * i + 1], i >= 3);
        }
        int[] ends = {0, 3, 1, 2, 0, 1, 1, 5, 0, 2, 2, 3};
        for (int i = 0; i < 6; i++) {
            f.bar(ends[2 * i], ends[2 * i + 1]);
        }
        f.load(0, 20, -20);
        f.load(1, -20, -20);
        f.load(2, 20, -20);
        f.price(1000);
        f.size(200);
        long[] pulls = {-7420, 1844, -1480, -360, 46000, 9200};
        for (int bar = 0; bar < 6; bar++) {
            pull(f, 0, bar, pulls[bar], 1);
        }
        cost(f, 0, 587160, 1);
        Due.due("far above the greatest size", f.frame(2), -6);
        cost(f, 3, 592160, 1);
    }

    private static void greatLowerNumbers() {
        LightFrame f = new LightFrame();
        int[] places = {1, 6, 0, 0, 6, 5, 0, 6, 5, 6, 2, 0};
        for (int i = 0; i < 6; i++) {
            f.joint(places[2 * i], places[2 * i + 1], i >= 3);
        }
        int[] ends = {1, 2, 1, 3, 1, 4, 0, 5, 0, 2, 2, 3};
        for (int i = 0; i < 6; i++) {
            f.bar(ends[2 * i], ends[2 * i + 1]);
        }
        f.load(0, -8, 20);
        f.load(1, 5, 19);
        f.load(2, 17, -20);
        f.size(200);
        f.price(1000);
        long[][] pulls = {{-2959, 1044}, {-100409, 31320}, {2089, 870}, {92, 29}, {28, 29}, {5077, 1044}};
        for (int bar = 0; bar < 6; bar++) {
            pull(f, 0, bar, pulls[bar][0], pulls[bar][1]);
        }
        cost(f, 0, 988132, 1305);
        cost(f, 1, LOST - 6, LOST - 6);
        cost(f, 2, 51600, 1);
        cost(f, 3, 8818132, 1305);
    }

    private static void framesFollowWhatIsTold() {
        Due.sentence("13: THE FRAME of a KIND (of what is told at the time)");
        LightFrame f = Given.fan(3, 3, 0, 0, 6, 0);
        f.load(0, 0, -6);
        cost(f, 0, 36, 1);
        f.joint(3, 0, true);
        cost(f, 0, 36, 1);
        f.bar(0, 3);
        cost(f, 0, 18, 1);
        f.load(0, 0, -3);
        cost(f, 0, 9, 1);
        cost(f, 2, LOST - 6, LOST - 6);
        f.size(5);
        cost(f, 2, 45, 1);
        f.size(1);
        cost(f, 2, 9, 1);
        cost(f, 3, 9, 1);
        f.price(2);
        cost(f, 3, 13, 1);
        f.drop();
        cost(f, 3, 24, 1);
        f.joint(6, 6, false);
        cost(f, 3, LOST - 6, LOST - 6);
    }

    private static void upTo512Calls() {
        Due.sentence("What it is: An object is used for at most 512 calls after it has been made");
        LightFrame f = Given.tripod(0, -6);
        for (int calls = 8; calls + 4 <= 512; calls += 4) {
            Due.due("drop", f.drop(), 2);
            Due.due("two bars", f.cost(0, 0), 36);
            Due.due("bar", f.bar(0, 3), 2);
            Due.due("three bars", f.cost(0, 0), 18);
        }
    }
}
