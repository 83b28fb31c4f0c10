import java.util.Arrays;

/** Lightest frames of bars between joints, and the field that proves that none is lighter. */
public final class LightFrame {
    public static final int NONE = -6, UNKNOWN = -1, OUTSIDE = -2, STATE = -3, FULL = -4, NO = -5;
    public static final long LOST = -1000000000000000L;

    private static final int MOST_JOINTS = 6;
    private static final int MOST_FREE = 3;
    private static final int MOST_ROWS = 2 * MOST_FREE;
    private static final int MOST_BARS = 10;
    private static final int MOST_SIZES = 5;
    /** 6 (or 4) bars out of 10: no other number of rows leaves more. */
    private static final int MOST_CHOICES = 210;

    private static final int LAST_PLACE = 6;
    private static final int GREATEST_LOAD = 20;
    private static final int GREATEST_SIZE = 200;
    private static final int GREATEST_PRICE = 1000;

    private static final int LIGHTEST = 0;
    private static final int UNCROSSED = 1;
    private static final int WHOLE_SIZES = 2;
    private static final int PRICED = 3;
    private static final int KINDS = 4;

    /** What about() adds to a refusal, since a load may be as low as -20. */
    private static final int ABOUT_REFUSED = -100;
    /** A row number of joints that have no rows. */
    private static final int NO_ROW = -1;
    /** A cost of choices that a kind rules out: all others are 0 or above. */
    private static final long RULED_OUT = -1;
    /** Euclid's steps on two longs are fewer than 100. */
    private static final int EUCLID_STEPS = 200;

    private final Plan plan;
    private final Search search;
    private final Proof proof;

    public LightFrame() {
        plan = new Plan();
        search = new Search(plan);
        proof = new Proof(plan, search);
    }

    // ---- 1 joints, bars, loads

    public int joint(int x, int y, boolean fixed) {
        if (!isPlace(x) || !isPlace(y)) {
            return OUTSIDE;
        }
        if (plan.joints >= MOST_JOINTS || (!fixed && plan.freeJoints >= MOST_FREE)) {
            return FULL;
        }
        if (plan.hasJointAt(x, y)) {
            return NO;
        }
        forgetAnswers();
        return plan.addJoint(x, y, fixed);
    }

    public int bar(int a, int b) {
        if (!plan.hasJoint(a) || !plan.hasJoint(b) || a == b) {
            return UNKNOWN;
        }
        if (plan.bars >= MOST_BARS) {
            return FULL;
        }
        if (plan.hasBarBetween(a, b)) {
            return NO;
        }
        forgetAnswers();
        return plan.addBar(a, b);
    }

    public int load(int joint, int px, int py) {
        if (!plan.hasJoint(joint)) {
            return UNKNOWN;
        }
        if (!isLoad(px) || !isLoad(py)) {
            return OUTSIDE;
        }
        int row = plan.row[joint];
        if (row == NO_ROW) {
            return NO;
        }
        forgetAnswers();
        plan.loads[row] = px;
        plan.loads[row + 1] = py;
        return 1;
    }

    public int about(int joint, int what) {
        if (!plan.hasJoint(joint)) {
            return ABOUT_REFUSED + UNKNOWN;
        }
        int row = plan.row[joint];
        switch (what) {
            case 0:
                return plan.x[joint];
            case 1:
                return plan.y[joint];
            case 2:
                return row == NO_ROW ? 1 : 0;
            case 3:
                return row == NO_ROW ? 0 : plan.loads[row];
            case 4:
                return row == NO_ROW ? 0 : plan.loads[row + 1];
            default:
                return ABOUT_REFUSED + OUTSIDE;
        }
    }

    public int ofBar(int bar, int what) {
        if (!plan.hasBar(bar)) {
            return UNKNOWN;
        }
        switch (what) {
            case 0:
                return plan.from[bar];
            case 1:
                return plan.to[bar];
            case 2:
                return plan.stuff[bar];
            default:
                return OUTSIDE;
        }
    }

    public int size(int s) {
        if (s < 1 || s > GREATEST_SIZE) {
            return OUTSIDE;
        }
        if (plan.sizeCount >= MOST_SIZES) {
            return FULL;
        }
        if (plan.hasSize(s)) {
            return NO;
        }
        forgetAnswers();
        return plan.addSize(s);
    }

    public int price(int p) {
        if (p < 0 || p > GREATEST_PRICE) {
            return OUTSIDE;
        }
        forgetAnswers();
        int before = plan.jointPrice;
        plan.jointPrice = p;
        return before;
    }

    public int drop() {
        if (plan.bars == 0) {
            return UNKNOWN;
        }
        forgetAnswers();
        plan.bars--;
        return plan.bars;
    }

    public int cross(int a, int b) {
        if (!plan.hasBar(a) || !plan.hasBar(b) || a == b) {
            return UNKNOWN;
        }
        return plan.barsCross(a, b) ? 1 : 0;
    }

    public int stiff(int bars) {
        if (bars < 0 || bars >= 1 << plan.bars) {
            return OUTSIDE;
        }
        search.run();
        return search.hasChoiceIn(bars) ? 1 : 0;
    }

    public int choices() {
        search.run();
        return search.choiceCount;
    }

    // ---- 2 frames

    public int frame(int kind) {
        if (!isKind(kind)) {
            return OUTSIDE;
        }
        Frame lightest = search.frameOf(kind);
        return lightest.found ? lightest.bars : NONE;
    }

    public long cost(int kind, int what) {
        if (!isKind(kind) || !isPart(what)) {
            return LOST + OUTSIDE;
        }
        Frame lightest = search.frameOf(kind);
        if (!lightest.found) {
            return LOST + NONE;
        }
        return partOf(lightest.costTop, lightest.bottom, what);
    }

    public long pull(int kind, int bar, int what) {
        if (!plan.hasBar(bar)) {
            return LOST + UNKNOWN;
        }
        if (!isKind(kind) || !isPart(what)) {
            return LOST + OUTSIDE;
        }
        Frame lightest = search.frameOf(kind);
        if (!lightest.found) {
            return LOST + NONE;
        }
        return partOf(lightest.pullTops[bar], lightest.bottom, what);
    }

    public int used(int kind, int what) {
        if (!isKind(kind) || what < 0 || what > 1) {
            return OUTSIDE;
        }
        Frame lightest = search.frameOf(kind);
        if (!lightest.found) {
            return NONE;
        }
        return what == 0 ? lightest.usedBars : lightest.usedJoints;
    }

    public int sized(int bar) {
        if (!plan.hasBar(bar)) {
            return UNKNOWN;
        }
        Frame lightest = search.frameOf(WHOLE_SIZES);
        if (!lightest.found) {
            return NONE;
        }
        return lightest.uses(bar) ? search.leastSizeFor(lightest, bar) : 0;
    }

    // ---- 3 proof

    public int prove() {
        Frame lightest = search.frameOf(LIGHTEST);
        // What was found stands until something is told: then it is forgotten.
        if (lightest.found && !proof.found) {
            proof.look(lightest);
        }
        return proof.found ? proof.bars : NONE;
    }

    public long field(int joint, int which, int part) {
        if (!proof.found) {
            return LOST + STATE;
        }
        if (!plan.hasJoint(joint)) {
            return LOST + UNKNOWN;
        }
        if (which < 0 || which > 1 || !isPart(part)) {
            return LOST + OUTSIDE;
        }
        return partOf(proof.fieldTop(joint, which), proof.bottom, part);
    }

    public long slack(int bar, int part) {
        if (!proof.found) {
            return LOST + STATE;
        }
        if (!plan.hasBar(bar)) {
            return LOST + UNKNOWN;
        }
        if (!isPart(part)) {
            return LOST + OUTSIDE;
        }
        return partOf(proof.slackTop(bar), proof.bottom, part);
    }

    public int told(int what) {
        switch (what) {
            case 0:
                return plan.joints;
            case 1:
                return plan.freeJoints;
            case 2:
                return plan.bars;
            case 3:
                return plan.sizeCount;
            case 4:
                return plan.jointPrice;
            default:
                return OUTSIDE;
        }
    }

    /** Frames and the proof speak of what was told before: each call that tells something ends them. */
    private void forgetAnswers() {
        search.known = false;
        proof.found = false;
    }

    private static boolean isPlace(int number) {
        return number >= 0 && number <= LAST_PLACE;
    }

    private static boolean isLoad(int number) {
        return number >= -GREATEST_LOAD && number <= GREATEST_LOAD;
    }

    private static boolean isKind(int kind) {
        return kind >= 0 && kind < KINDS;
    }

    private static boolean isPart(int part) {
        return part == 0 || part == 1;
    }

    /** The upper (0) or lower (1) number of a fraction in lowest terms; its bottom is above 0. */
    private static long partOf(long top, long bottom, int part) {
        long divisor = commonDivisor(Math.abs(top), bottom);
        if (divisor == 0) {
            return 0;
        }
        return part == 0 ? top / divisor : bottom / divisor;
    }

    private static long commonDivisor(long a, long b) {
        long greater = a;
        long lesser = b;
        for (int step = 0; step < EUCLID_STEPS && lesser != 0; step++) {
            long rest = greater % lesser;
            greater = lesser;
            lesser = rest;
        }
        return greater;
    }

    /** What was told: joints, bars, loads, sizes, the price. */
    private static final class Plan {
        int joints;
        int freeJoints;
        int bars;
        int sizeCount;
        int jointPrice;
        final int[] x = new int[MOST_JOINTS];
        final int[] y = new int[MOST_JOINTS];
        /** The row across of a free joint (the row up is the next one). */
        final int[] row = new int[MOST_JOINTS];
        final int[] loads = new int[MOST_ROWS];
        final int[] from = new int[MOST_BARS];
        final int[] to = new int[MOST_BARS];
        final int[] across = new int[MOST_BARS];
        final int[] up = new int[MOST_BARS];
        final int[] stuff = new int[MOST_BARS];
        /** Of each bar, the bars before it that cross it: they outlast it, since the latest one goes first. */
        final int[] crossing = new int[MOST_BARS];
        final int[] sizes = new int[MOST_SIZES];

        boolean hasJoint(int joint) {
            return joint >= 0 && joint < joints;
        }

        boolean hasBar(int bar) {
            return bar >= 0 && bar < bars;
        }

        int rows() {
            return 2 * freeJoints;
        }

        boolean hasJointAt(int px, int py) {
            for (int joint = 0; joint < joints; joint++) {
                if (x[joint] == px && y[joint] == py) {
                    return true;
                }
            }
            return false;
        }

        boolean hasBarBetween(int a, int b) {
            for (int bar = 0; bar < bars; bar++) {
                if ((from[bar] == a && to[bar] == b) || (from[bar] == b && to[bar] == a)) {
                    return true;
                }
            }
            return false;
        }

        boolean hasSize(int s) {
            for (int place = 0; place < sizeCount; place++) {
                if (sizes[place] == s) {
                    return true;
                }
            }
            return false;
        }

        /** The caller has seen to it that there is room. */
        int addJoint(int px, int py, boolean fixed) {
            int joint = joints;
            x[joint] = px;
            y[joint] = py;
            row[joint] = NO_ROW;
            if (!fixed) {
                row[joint] = rows();
                freeJoints++;
            }
            joints++;
            return joint;
        }

        /** The caller has seen to it that there is room. */
        int addBar(int a, int b) {
            int bar = bars;
            from[bar] = a;
            to[bar] = b;
            across[bar] = x[b] - x[a];
            up[bar] = y[b] - y[a];
            stuff[bar] = across[bar] * across[bar] + up[bar] * up[bar];
            crossing[bar] = 0;
            for (int other = 0; other < bar; other++) {
                crossing[bar] |= meet(bar, other) ? 1 << other : 0;
            }
            bars++;
            return bar;
        }

        /** The caller has seen to it that there is room. */
        int addSize(int s) {
            sizes[sizeCount] = s;
            sizeCount++;
            return sizeCount;
        }

        /** The caller has seen to it that there are two such bars. */
        boolean barsCross(int one, int other) {
            return (crossing[Math.max(one, other)] >> Math.min(one, other) & 1) == 1;
        }

        /** Whether two bars have a point in common that is not an end of both. */
        private boolean meet(int first, int second) {
            int a = from[first];
            int b = to[first];
            int c = from[second];
            int d = to[second];
            if (a == c) {
                return sameWay(a, b, d);
            }
            if (a == d) {
                return sameWay(a, b, c);
            }
            if (b == c) {
                return sameWay(b, a, d);
            }
            if (b == d) {
                return sameWay(b, a, c);
            }
            return touch(a, b, c, d);
        }

        /** Bars with one joint in common have more in common only if one lies on the other. */
        private boolean sameWay(int joint, int one, int other) {
            int along = (x[one] - x[joint]) * (x[other] - x[joint]) + (y[one] - y[joint]) * (y[other] - y[joint]);
            return side(joint, one, other) == 0 && along > 0;
        }

        /** Without a joint in common, any point in common is enough. */
        private boolean touch(int a, int b, int c, int d) {
            if (isOn(a, b, c) || isOn(a, b, d) || isOn(c, d, a) || isOn(c, d, b)) {
                return true;
            }
            return side(a, b, c) * side(a, b, d) < 0 && side(c, d, a) * side(c, d, b) < 0;
        }

        /** Whether a joint lies on the bar between two others. */
        private boolean isOn(int a, int b, int joint) {
            return side(a, b, joint) == 0
                && x[joint] >= Math.min(x[a], x[b]) && x[joint] <= Math.max(x[a], x[b])
                && y[joint] >= Math.min(y[a], y[b]) && y[joint] <= Math.max(y[a], y[b]);
        }

        /** Above 0 on the left of the way from a to b, below 0 on the right, 0 on its line. */
        private int side(int a, int b, int joint) {
            return (x[b] - x[a]) * (y[joint] - y[a]) - (y[b] - y[a]) * (x[joint] - x[a]);
        }
    }

    /**
     * The inverse of the rows for a set of bars, as whole numbers over one bottom.
     * With one inverse both the pulls and each field come by sums alone.
     */
    private static final class Inverse {
        final Plan plan;
        /** On the left the rows, a column for each bar of the set; on the right what becomes the inverse. */
        final long[][] table = new long[MOST_ROWS][2 * MOST_ROWS];
        /** The bars of the set in order. */
        final int[] bars = new int[MOST_ROWS];
        int rank;
        long bottom = 1;

        Inverse(Plan plan) {
            this.plan = plan;
        }

        /** The set has as many bars as there are rows. */
        void take(int set) {
            rank = plan.rows();
            listBars(set);
            clearTable();
            for (int column = 0; column < rank; column++) {
                fillColumn(column);
            }
        }

        /** The inverse, times bottom: what a load of 1 in a row (from 0 on) does to a bar of the set. */
        long at(int place, int row) {
            return table[place][rank + row];
        }

        private void listBars(int set) {
            int place = 0;
            for (int bar = 0; bar < plan.bars && place < rank; bar++) {
                if ((set >> bar & 1) == 1) {
                    bars[place] = bar;
                    place++;
                }
            }
        }

        private void clearTable() {
            for (int i = 0; i < rank; i++) {
                for (int j = 0; j < 2 * rank; j++) {
                    table[i][j] = j == rank + i ? 1 : 0;
                }
            }
        }

        private void fillColumn(int column) {
            int bar = bars[column];
            int start = plan.row[plan.from[bar]];
            if (start != NO_ROW) {
                table[start][column] = plan.across[bar];
                table[start + 1][column] = plan.up[bar];
            }
            int end = plan.row[plan.to[bar]];
            if (end != NO_ROW) {
                table[end][column] = -plan.across[bar];
                table[end + 1][column] = -plan.up[bar];
            }
        }

        /**
         * Whether there is an inverse, that is, whether the set is a choice.
         * By Bareiss: each division comes out even, and every number stays a minor of the table,
         * by Hadamard's bound below 1,100,000 (three bars between free joints at most, as columns
         * of length 12 at most, the others of 8.5 at most), so that no product leaves a long.
         */
        boolean invert() {
            long before = 1;
            for (int k = 0; k < rank; k++) {
                int pivotRow = rowWithPivot(k);
                if (pivotRow == NO_ROW) {
                    return false;
                }
                swapRows(pivotRow, k);
                clearColumn(k, before);
                before = table[k][k];
            }
            bottom = before;
            if (bottom < 0) {
                turnSigns();
            }
            return true;
        }

        private int rowWithPivot(int k) {
            for (int i = k; i < rank; i++) {
                if (table[i][k] != 0) {
                    return i;
                }
            }
            return NO_ROW;
        }

        private void swapRows(int one, int other) {
            for (int j = 0; j < 2 * rank; j++) {
                long kept = table[one][j];
                table[one][j] = table[other][j];
                table[other][j] = kept;
            }
        }

        private void clearColumn(int k, long before) {
            if (before == 0) {
                return;
            }
            long pivot = table[k][k];
            for (int i = 0; i < rank; i++) {
                long factor = table[i][k];
                for (int j = 0; j < 2 * rank && i != k; j++) {
                    table[i][j] = (pivot * table[i][j] - factor * table[k][j]) / before;
                }
            }
        }

        private void turnSigns() {
            bottom = -bottom;
            for (int i = 0; i < rank; i++) {
                for (int j = rank; j < 2 * rank; j++) {
                    table[i][j] = -table[i][j];
                }
            }
        }
    }

    /** A choice with what its bars bear; pulls and cost are over one bottom, which is above 0. */
    private static final class Frame {
        boolean found;
        int bars;
        int usedBars;
        int usedJoints;
        long costTop;
        long bottom = 1;
        final long[] pullTops = new long[MOST_BARS];

        boolean uses(int bar) {
            return (usedBars >> bar & 1) == 1;
        }

        /** Whether a cost is below that of this frame, or there is none yet. */
        boolean givesWayTo(long otherTop, long otherBottom) {
            return !found || otherTop * bottom < costTop * otherBottom;
        }

        void become(Frame other, long otherTop) {
            found = true;
            bars = other.bars;
            usedBars = other.usedBars;
            usedJoints = other.usedJoints;
            costTop = otherTop;
            bottom = other.bottom;
            System.arraycopy(other.pullTops, 0, pullTops, 0, MOST_BARS);
        }
    }

    /** All choices in order, and the frame of each kind among them, kept until something is told. */
    private static final class Search {
        final Plan plan;
        final Inverse inverse;
        /** The choice that is looked at. */
        final Frame trial = new Frame();
        final Frame[] frames = new Frame[KINDS];
        final int[] choiceBars = new int[MOST_CHOICES];
        int choiceCount;
        boolean known;

        Search(Plan plan) {
            this.plan = plan;
            inverse = new Inverse(plan);
            for (int kind = 0; kind < KINDS; kind++) {
                frames[kind] = new Frame();
            }
        }

        /** The caller has seen to it that there is such a kind. */
        Frame frameOf(int kind) {
            run();
            return frames[kind];
        }

        void run() {
            if (known) {
                return;
            }
            choiceCount = 0;
            for (int kind = 0; kind < KINDS; kind++) {
                frames[kind].found = false;
            }
            // With bar 0 as the highest digit, falling codes are sets in the order of choices.
            for (int code = (1 << plan.bars) - 1; code >= 0; code--) {
                if (Integer.bitCount(code) == plan.rows()) {
                    look(mirrored(code));
                }
            }
            known = true;
        }

        boolean hasChoiceIn(int bars) {
            for (int place = 0; place < choiceCount; place++) {
                if ((choiceBars[place] & ~bars) == 0) {
                    return true;
                }
            }
            return false;
        }

        /** Makes a set of bars the trial; false if it is no choice. */
        boolean tryBars(int set) {
            inverse.take(set);
            if (!inverse.invert()) {
                return false;
            }
            trial.bars = set;
            trial.bottom = inverse.bottom;
            trial.usedBars = 0;
            trial.usedJoints = 0;
            Arrays.fill(trial.pullTops, 0);
            for (int place = 0; place < inverse.rank; place++) {
                takePull(place);
            }
            return true;
        }

        long lightestTop() {
            long top = 0;
            for (int bar = 0; bar < plan.bars; bar++) {
                top += plan.stuff[bar] * Math.abs(trial.pullTops[bar]);
            }
            return top;
        }

        /** The least size that is not below what a bar bears; 0 if there is none. */
        int leastSizeFor(Frame frame, int bar) {
            int least = 0;
            for (int place = 0; place < plan.sizeCount; place++) {
                int s = plan.sizes[place];
                if (s * frame.bottom >= Math.abs(frame.pullTops[bar]) && (least == 0 || s < least)) {
                    least = s;
                }
            }
            return least;
        }

        private int mirrored(int code) {
            int set = 0;
            for (int bar = 0; bar < plan.bars; bar++) {
                if ((code >> (plan.bars - 1 - bar) & 1) == 1) {
                    set |= 1 << bar;
                }
            }
            return set;
        }

        private void look(int set) {
            if (choiceCount >= MOST_CHOICES || !tryBars(set)) {
                return;
            }
            choiceBars[choiceCount] = set;
            choiceCount++;
            for (int kind = 0; kind < KINDS; kind++) {
                long top = trialTop(kind);
                if (top != RULED_OUT && frames[kind].givesWayTo(top, trial.bottom)) {
                    frames[kind].become(trial, top);
                }
            }
        }

        /** The rows ask that the load and what the bars bear are 0 together: hence the minus. */
        private void takePull(int place) {
            long top = 0;
            for (int row = 0; row < inverse.rank; row++) {
                top -= inverse.at(place, row) * plan.loads[row];
            }
            int bar = inverse.bars[place];
            trial.pullTops[bar] = top;
            if (top != 0) {
                trial.usedBars |= 1 << bar;
                trial.usedJoints |= 1 << plan.from[bar] | 1 << plan.to[bar];
            }
        }

        private long trialTop(int kind) {
            switch (kind) {
                case UNCROSSED:
                    return usedBarsCross() ? RULED_OUT : lightestTop();
                case WHOLE_SIZES:
                    return wholeSizesTop();
                case PRICED:
                    return lightestTop() + pricesTop();
                default:
                    return lightestTop();
            }
        }

        private boolean usedBarsCross() {
            for (int bar = 0; bar < plan.bars; bar++) {
                if (trial.uses(bar) && (plan.crossing[bar] & trial.usedBars) != 0) {
                    return true;
                }
            }
            return false;
        }

        private long wholeSizesTop() {
            long sum = 0;
            for (int bar = 0; bar < plan.bars; bar++) {
                if (trial.uses(bar)) {
                    int s = leastSizeFor(trial, bar);
                    if (s == 0) {
                        return RULED_OUT;
                    }
                    sum += plan.stuff[bar] * s;
                }
            }
            return sum * trial.bottom;
        }

        private long pricesTop() {
            return plan.jointPrice * Integer.bitCount(trial.usedJoints) * trial.bottom;
        }
    }

    /** The field that proves that no frame is lighter; its numbers are over one bottom, which is above 0. */
    private static final class Proof {
        final Plan plan;
        final Search search;
        boolean found;
        int bars;
        long bottom = 1;
        final long[] tops = new long[MOST_ROWS];
        /** Stuff of each bar of the choice, with its sign. */
        final long[] wanted = new long[MOST_ROWS];

        Proof(Plan plan, Search search) {
            this.plan = plan;
            this.search = search;
        }

        void look(Frame lightest) {
            for (int place = 0; place < search.choiceCount && !found; place++) {
                if (search.tryBars(search.choiceBars[place]) && costsAsMuchAs(lightest)) {
                    lookAtTrial();
                }
            }
        }

        /** The field of a joint across (0) or up (1), times bottom. */
        long fieldTop(int joint, int which) {
            int row = plan.row[joint];
            return row == NO_ROW ? 0 : tops[row + which];
        }

        /** By how much a bar's number is below its stuff, times bottom. */
        long slackTop(int bar) {
            int a = plan.from[bar];
            int b = plan.to[bar];
            long number = plan.across[bar] * (fieldTop(b, 0) - fieldTop(a, 0))
                + plan.up[bar] * (fieldTop(b, 1) - fieldTop(a, 1));
            return plan.stuff[bar] * bottom - Math.abs(number);
        }

        private boolean costsAsMuchAs(Frame lightest) {
            return search.lightestTop() * lightest.bottom == lightest.costTop * search.trial.bottom;
        }

        private void lookAtTrial() {
            int unused = search.inverse.rank - Integer.bitCount(search.trial.usedBars);
            for (int signs = 0; signs < 1 << unused && !found; signs++) {
                setWanted(signs);
                setField();
                // Loads times such a field are the trial's cost by themselves, by the rows: only the bars are open.
                found = noBarExceeds();
            }
            bars = search.trial.bars;
        }

        private void setWanted(int signs) {
            int rest = signs;
            for (int place = 0; place < search.inverse.rank; place++) {
                int bar = search.inverse.bars[place];
                boolean minus = search.trial.pullTops[bar] < 0;
                if (!search.trial.uses(bar)) {
                    minus = (rest & 1) == 1;
                    rest >>= 1;
                }
                wanted[place] = minus ? -plan.stuff[bar] : plan.stuff[bar];
            }
        }

        /** A bar's number takes its ways from the other end than the rows do: hence the minus. */
        private void setField() {
            bottom = search.trial.bottom;
            for (int row = 0; row < search.inverse.rank; row++) {
                long top = 0;
                for (int place = 0; place < search.inverse.rank; place++) {
                    top -= search.inverse.at(place, row) * wanted[place];
                }
                tops[row] = top;
            }
        }

        private boolean noBarExceeds() {
            for (int bar = 0; bar < plan.bars; bar++) {
                if (slackTop(bar) < 0) {
                    return false;
                }
            }
            return true;
        }
    }
}
