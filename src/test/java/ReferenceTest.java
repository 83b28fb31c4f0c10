import java.math.BigInteger;
import java.util.ArrayList;
import java.util.List;
import java.util.Random;

/** Random runs against a slow model that follows the document's words, in big fractions. */
public final class ReferenceTest {
    private static final int RUNS = 2500;
    private static final long LOST = -1000000000000000L;
    private static int wrong = 0;
    private static long asked = 0;

    public static void main(String[] args) {
        for (int run = 0; run < RUNS && wrong == 0; run++) {
            new Run(run).play();
        }
        System.out.println(RUNS + " runs, " + asked + " answers asked, " + wrong + " not as due");
        if (wrong != 0) {
            System.exit(1);
        }
    }

    /** A run of 512 calls at most, told whole if an answer is wrong. */
    private static final class Run {
        private final int number;
        private final Random random;
        private final LightFrame got = new LightFrame();
        private final Model want = new Model();
        private final List<String> calls = new ArrayList<>();
        /** A small field of places makes lines and ties likely. */
        private final int places;
        private final int loads;

        Run(int number) {
            this.number = number;
            random = new Random(number);
            places = 2 + random.nextInt(5);
            loads = random.nextInt(3) == 0 ? 20 : 1 + random.nextInt(4);
        }

        private int from(int low, int high) {
            return low + random.nextInt(high - low + 1);
        }

        /** Mostly as asked; now and then far off. */
        private int odd(int number) {
            int chance = random.nextInt(60);
            if (chance == 0) {
                return random.nextInt();
            }
            if (chance == 1) {
                return random.nextBoolean() ? Integer.MIN_VALUE : Integer.MAX_VALUE;
            }
            return number;
        }

        void play() {
            build();
            askAll();
            while (calls.size() < 512 && wrong == 0) {
                tellSomething();
                if (random.nextInt(4) == 0) {
                    askAll();
                }
                askSomething();
            }
        }

        private void build() {
            int joints = from(0, 6);
            for (int i = 0; i < joints; i++) {
                joint(from(0, places), from(0, places), random.nextBoolean());
            }
            int bars = from(0, 14);
            for (int i = 0; i < bars; i++) {
                bar(from(0, 5), from(0, 5));
            }
            for (int i = 0; i < 6; i++) {
                load(i, from(-loads, loads), from(-loads, loads));
            }
            for (int i = random.nextInt(4); i > 0; i--) {
                size(random.nextBoolean() ? from(1, 10) : from(1, 200));
            }
            if (random.nextBoolean()) {
                price(random.nextBoolean() ? from(0, 20) : from(0, 1000));
            }
        }

        private void tellSomething() {
            switch (random.nextInt(8)) {
                case 0: joint(odd(from(-1, places + 1)), odd(from(-1, places + 1)), random.nextBoolean()); break;
                case 1:
                case 2: bar(odd(from(-1, 6)), odd(from(-1, 6))); break;
                case 3:
                case 4: load(odd(from(-1, 6)), odd(from(-loads - 1, loads + 1)), odd(from(-loads, loads))); break;
                case 5: size(odd(random.nextBoolean() ? from(0, 10) : from(0, 201))); break;
                case 6: price(odd(from(-1, 1001))); break;
                default: if (random.nextInt(3) == 0) { check("drop()", got.drop(), want.drop()); }
            }
        }

        private void joint(int x, int y, boolean fixed) {
            check("joint(" + x + ", " + y + ", " + fixed + ")", got.joint(x, y, fixed), want.joint(x, y, fixed));
        }

        private void bar(int a, int b) {
            check("bar(" + a + ", " + b + ")", got.bar(a, b), want.bar(a, b));
        }

        private void load(int j, int px, int py) {
            check("load(" + j + ", " + px + ", " + py + ")", got.load(j, px, py), want.load(j, px, py));
        }

        private void size(int s) {
            check("size(" + s + ")", got.size(s), want.size(s));
        }

        private void price(int p) {
            check("price(" + p + ")", got.price(p), want.price(p));
        }

        private void askSomething() {
            int a = odd(from(-1, 6));
            int b = odd(from(-1, 6));
            int bar = odd(from(-1, 10));
            int other = odd(from(-1, 10));
            int kind = odd(from(-1, 4));
            int part = odd(from(-1, 2));
            switch (random.nextInt(13)) {
                case 0: check("about(" + a + ", " + b + ")", got.about(a, b), want.about(a, b)); break;
                case 1: check("ofBar(" + bar + ", " + b + ")", got.ofBar(bar, b), want.ofBar(bar, b)); break;
                case 2: check("cross(" + bar + ", " + other + ")", got.cross(bar, other), want.cross(bar, other)); break;
                case 3: stiff(odd(from(-1, 1025))); break;
                case 4: check("choices()", got.choices(), want.choices()); break;
                case 5: check("frame(" + kind + ")", got.frame(kind), want.frame(kind)); break;
                case 6: cost(kind, part); break;
                case 7: pull(kind, bar, part); break;
                case 8: used(kind, part); break;
                case 9: check("sized(" + bar + ")", got.sized(bar), want.sized(bar)); break;
                case 10: field(a, part, odd(from(-1, 2))); break;
                case 11: slack(bar, part); break;
                default: check("told(" + b + ")", got.told(b), want.told(b));
            }
        }

        private void askAll() {
            int bars = want.bars.size();
            stiff(random.nextInt(1 << bars));
            stiff((1 << bars) - 1);
            check("choices()", got.choices(), want.choices());
            for (int kind = 0; kind < 4; kind++) {
                check("frame(" + kind + ")", got.frame(kind), want.frame(kind));
                cost(kind, 0);
                cost(kind, 1);
                used(kind, 0);
                used(kind, 1);
            }
            int kind = random.nextInt(4);
            for (int bar = 0; bar < bars; bar++) {
                pull(kind, bar, 0);
                pull(kind, bar, 1);
                check("sized(" + bar + ")", got.sized(bar), want.sized(bar));
                int other = random.nextInt(bars);
                check("cross(" + bar + ", " + other + ")", got.cross(bar, other), want.cross(bar, other));
            }
            check("prove()", got.prove(), want.prove());
            for (int j = 0; j < want.joints.size(); j++) {
                for (int which = 0; which < 2; which++) {
                    field(j, which, 0);
                    field(j, which, 1);
                }
            }
            for (int bar = 0; bar < bars; bar++) {
                slack(bar, 0);
                slack(bar, 1);
            }
        }

        private void stiff(int set) {
            check("stiff(" + set + ")", got.stiff(set), want.stiff(set));
        }

        private void cost(int kind, int what) {
            check("cost(" + kind + ", " + what + ")", got.cost(kind, what), want.cost(kind, what));
        }

        private void pull(int kind, int bar, int what) {
            check("pull(" + kind + ", " + bar + ", " + what + ")", got.pull(kind, bar, what), want.pull(kind, bar, what));
        }

        private void used(int kind, int what) {
            check("used(" + kind + ", " + what + ")", got.used(kind, what), want.used(kind, what));
        }

        private void field(int j, int which, int part) {
            check("field(" + j + ", " + which + ", " + part + ")", got.field(j, which, part), want.field(j, which, part));
        }

        private void slack(int bar, int part) {
            check("slack(" + bar + ", " + part + ")", got.slack(bar, part), want.slack(bar, part));
        }

        private void check(String call, long answer, long due) {
            calls.add(call);
            asked++;
            // After its 512th call an object answers as it likes.
            if (answer != due && calls.size() <= 512) {
                wrong++;
                System.out.println("run " + number + ": " + calls + " answered " + answer + ", due is " + due);
            }
        }
    }

    private record Fraction(BigInteger top, BigInteger bottom) implements Comparable<Fraction> {
        static final Fraction ZERO = of(0);

        static Fraction of(long number) {
            return new Fraction(BigInteger.valueOf(number), BigInteger.ONE);
        }

        static Fraction of(BigInteger top, BigInteger bottom) {
            BigInteger divisor = top.gcd(bottom).multiply(BigInteger.valueOf(bottom.signum()));
            return new Fraction(top.divide(divisor), bottom.divide(divisor));
        }

        Fraction plus(Fraction o) {
            return of(top.multiply(o.bottom).add(o.top.multiply(bottom)), bottom.multiply(o.bottom));
        }

        Fraction times(Fraction o) {
            return of(top.multiply(o.top), bottom.multiply(o.bottom));
        }

        Fraction over(Fraction o) {
            return of(top.multiply(o.bottom), bottom.multiply(o.top));
        }

        Fraction minus(Fraction o) {
            return plus(o.times(of(-1)));
        }

        Fraction size() {
            return new Fraction(top.abs(), bottom);
        }

        int sign() {
            return top.signum();
        }

        public int compareTo(Fraction o) {
            return top.multiply(o.bottom).compareTo(o.top.multiply(bottom));
        }

        long part(int part) {
            return (part == 0 ? top : bottom).longValueExact();
        }
    }

    private record Joint(int x, int y, boolean fixed) {
    }

    private record Bar(int a, int b) {
    }

    /** A choice with its pulls (by bars of the plan) and the cost of one kind. */
    private record Found(int bars, Fraction[] pulls, Fraction cost) {
        int usedBars() {
            int set = 0;
            for (int bar = 0; bar < pulls.length; bar++) {
                set |= pulls[bar].sign() != 0 ? 1 << bar : 0;
            }
            return set;
        }
    }

    private static final class Model {
        final List<Joint> joints = new ArrayList<>();
        final List<Bar> bars = new ArrayList<>();
        final List<Integer> sizes = new ArrayList<>();
        final int[][] loads = new int[6][2];
        int price = 0;
        /** u and v of each joint; null: none was found since something was told. */
        Fraction[][] field = null;
        /** Kept between calls only to make the test quicker. */
        List<Found> kept = null;

        private void changed() {
            field = null;
            kept = null;
        }

        int free() {
            int count = 0;
            for (Joint j : joints) {
                count += j.fixed ? 0 : 1;
            }
            return count;
        }

        int joint(int x, int y, boolean fixed) {
            if (x < 0 || x > 6 || y < 0 || y > 6) return -2;
            if (joints.size() == 6 || !fixed && free() == 3) return -4;
            for (Joint j : joints) {
                if (j.x == x && j.y == y) return -5;
            }
            joints.add(new Joint(x, y, fixed));
            changed();
            return joints.size() - 1;
        }

        private boolean noJoint(int j) {
            return j < 0 || j >= joints.size();
        }

        private boolean noBar(int b) {
            return b < 0 || b >= bars.size();
        }

        int bar(int a, int b) {
            if (noJoint(a) || noJoint(b) || a == b) return -1;
            if (bars.size() == 10) return -4;
            if (bars.contains(new Bar(a, b)) || bars.contains(new Bar(b, a))) return -5;
            bars.add(new Bar(a, b));
            changed();
            return bars.size() - 1;
        }

        int load(int j, int px, int py) {
            if (noJoint(j)) return -1;
            if (px < -20 || px > 20 || py < -20 || py > 20) return -2;
            if (joints.get(j).fixed) return -5;
            loads[j][0] = px;
            loads[j][1] = py;
            changed();
            return 1;
        }

        int about(int j, int what) {
            if (noJoint(j)) return -101;
            if (what < 0 || what > 4) return -102;
            Joint joint = joints.get(j);
            return new int[] {joint.x, joint.y, joint.fixed ? 1 : 0, loads[j][0], loads[j][1]}[what];
        }

        private int stuff(int b) {
            Joint from = joints.get(bars.get(b).a);
            Joint to = joints.get(bars.get(b).b);
            return (from.x - to.x) * (from.x - to.x) + (from.y - to.y) * (from.y - to.y);
        }

        int ofBar(int b, int what) {
            if (noBar(b)) return -1;
            if (what < 0 || what > 2) return -2;
            return new int[] {bars.get(b).a, bars.get(b).b, stuff(b)}[what];
        }

        int size(int s) {
            if (s < 1 || s > 200) return -2;
            if (sizes.size() == 5) return -4;
            if (sizes.contains(s)) return -5;
            sizes.add(s);
            changed();
            return sizes.size();
        }

        int price(int p) {
            if (p < 0 || p > 1000) return -2;
            int before = price;
            price = p;
            changed();
            return before;
        }

        int drop() {
            if (bars.isEmpty()) return -1;
            bars.remove(bars.size() - 1);
            changed();
            return bars.size();
        }

        int cross(int a, int b) {
            if (noBar(a) || noBar(b) || a == b) return -1;
            return crossing(a, b) ? 1 : 0;
        }

        /** In numbers s, t from 0 to 1 along both bars; on one line, by the stretch that they share. */
        private boolean crossing(int first, int second) {
            Joint a = joints.get(bars.get(first).a);
            Joint b = joints.get(bars.get(first).b);
            Joint c = joints.get(bars.get(second).a);
            Joint d = joints.get(bars.get(second).b);
            int turn = (b.x - a.x) * (d.y - c.y) - (b.y - a.y) * (d.x - c.x);
            int wayS = (c.x - a.x) * (d.y - c.y) - (c.y - a.y) * (d.x - c.x);
            int wayT = (c.x - a.x) * (b.y - a.y) - (c.y - a.y) * (b.x - a.x);
            if (turn != 0) {
                int sign = Integer.signum(turn);
                int s = wayS * sign;
                int t = wayT * sign;
                int one = turn * sign;
                boolean inBoth = s >= 0 && s <= one && t >= 0 && t <= one;
                boolean endOfBoth = (s == 0 || s == one) && (t == 0 || t == one);
                return inBoth && !endOfBoth;
            }
            if (wayT != 0) {
                return false;
            }
            // On one line the number 7 x + y tells all its places apart, and in their order.
            int low = Math.max(Math.min(along(a), along(b)), Math.min(along(c), along(d)));
            int high = Math.min(Math.max(along(a), along(b)), Math.max(along(c), along(d)));
            return low < high;
        }

        private static int along(Joint j) {
            return 7 * j.x + j.y;
        }

        int stiff(int set) {
            if (set < 0 || set >= 1 << bars.size()) return -2;
            for (Found found : found()) {
                if ((found.bars | set) == set) return 1;
            }
            return 0;
        }

        int choices() {
            return found().size();
        }

        private boolean isKind(int kind) {
            return kind >= 0 && kind <= 3;
        }

        int frame(int kind) {
            if (!isKind(kind)) return -2;
            Found best = best(kind);
            return best == null ? -6 : best.bars;
        }

        long cost(int kind, int what) {
            if (!isKind(kind) || what < 0 || what > 1) return LOST - 2;
            Found best = best(kind);
            return best == null ? LOST - 6 : best.cost.part(what);
        }

        long pull(int kind, int b, int what) {
            if (noBar(b)) return LOST - 1;
            if (!isKind(kind) || what < 0 || what > 1) return LOST - 2;
            Found best = best(kind);
            return best == null ? LOST - 6 : best.pulls[b].part(what);
        }

        int used(int kind, int what) {
            if (!isKind(kind) || what < 0 || what > 1) return -2;
            Found best = best(kind);
            if (best == null) return -6;
            return what == 0 ? best.usedBars() : usedJoints(best);
        }

        int sized(int b) {
            if (noBar(b)) return -1;
            Found best = best(2);
            if (best == null) return -6;
            return best.pulls[b].sign() == 0 ? 0 : sizeFor(best.pulls[b]);
        }

        int told(int what) {
            if (what < 0 || what > 4) return -2;
            return new int[] {joints.size(), free(), bars.size(), sizes.size(), price}[what];
        }

        private int usedJoints(Found found) {
            int set = 0;
            for (int b = 0; b < bars.size(); b++) {
                if (found.pulls[b].sign() != 0) {
                    set |= 1 << bars.get(b).a | 1 << bars.get(b).b;
                }
            }
            return set;
        }

        private int sizeFor(Fraction pull) {
            int least = 0;
            for (int s : sizes) {
                if (Fraction.of(s).compareTo(pull.size()) >= 0 && (least == 0 || s < least)) least = s;
            }
            return least;
        }

        private Found best(int kind) {
            Found best = null;
            for (Found found : found()) {
                Fraction cost = costOf(found, kind);
                if (cost != null && (best == null || cost.compareTo(best.cost) < 0)) {
                    best = new Found(found.bars, found.pulls, cost);
                }
            }
            return best;
        }

        private Fraction costOf(Found found, int kind) {
            Fraction sum = Fraction.ZERO;
            for (int b = 0; b < bars.size(); b++) {
                Fraction measure = found.pulls[b].size();
                if (kind == 2 && measure.sign() != 0) {
                    if (sizeFor(measure) == 0) return null;
                    measure = Fraction.of(sizeFor(measure));
                }
                for (int other = 0; other < b && kind == 1; other++) {
                    if (measure.sign() != 0 && found.pulls[other].sign() != 0 && crossing(b, other)) return null;
                }
                sum = sum.plus(Fraction.of(stuff(b)).times(measure));
            }
            int prices = kind == 3 ? price * Integer.bitCount(usedJoints(found)) : 0;
            return sum.plus(Fraction.of(prices));
        }

        /** All choices in order, by growing lists of bars. */
        private List<Found> found() {
            if (kept == null) {
                kept = new ArrayList<>();
                grow(new ArrayList<>(), 0);
            }
            return kept;
        }

        private void grow(List<Integer> set, int next) {
            if (set.size() == 2 * free()) {
                Fraction[] answer = solve(rows(set));
                if (answer != null) kept.add(foundOf(set, answer));
                return;
            }
            for (int b = next; b < bars.size(); b++) {
                set.add(b);
                grow(set, b + 1);
                set.remove(set.size() - 1);
            }
        }

        private Found foundOf(List<Integer> set, Fraction[] answer) {
            Fraction[] pulls = new Fraction[bars.size()];
            java.util.Arrays.fill(pulls, Fraction.ZERO);
            int bits = 0;
            for (int i = 0; i < set.size(); i++) {
                pulls[set.get(i)] = answer[i];
                bits |= 1 << set.get(i);
            }
            return new Found(bits, pulls, null);
        }

        /** Load and what bars bear are 0 together: bars on the left, the load turned on the right. */
        private Fraction[][] rows(List<Integer> set) {
            List<Fraction[]> rows = new ArrayList<>();
            for (int j = 0; j < joints.size(); j++) {
                for (int axis = 0; axis < 2 && !joints.get(j).fixed; axis++) {
                    Fraction[] row = new Fraction[set.size() + 1];
                    for (int i = 0; i < set.size(); i++) {
                        row[i] = Fraction.of(way(set.get(i), j, axis));
                    }
                    row[set.size()] = Fraction.of(-loads[j][axis]);
                    rows.add(row);
                }
            }
            return rows.toArray(new Fraction[0][]);
        }

        /** From a joint to the other one of a bar; 0 if the bar is not at it. */
        private int way(int b, int j, int axis) {
            Bar bar = bars.get(b);
            if (bar.a != j && bar.b != j) return 0;
            Joint here = joints.get(j);
            Joint there = joints.get(bar.a == j ? bar.b : bar.a);
            return axis == 0 ? there.x - here.x : there.y - here.y;
        }

        /** The one answer of as many rows as unknowns; null if there is not just one. */
        private static Fraction[] solve(Fraction[][] rows) {
            int n = rows.length;
            for (int k = 0; k < n; k++) {
                int pivot = k;
                while (pivot < n && rows[pivot][k].sign() == 0) pivot++;
                if (pivot == n) return null;
                Fraction[] row = rows[pivot];
                rows[pivot] = rows[k];
                rows[k] = row;
                for (int i = 0; i < n; i++) {
                    if (i == k || rows[i][k].sign() == 0) continue;
                    Fraction factor = rows[i][k].over(row[k]);
                    for (int j = k; j <= n; j++) {
                        rows[i][j] = rows[i][j].minus(factor.times(row[j]));
                    }
                }
            }
            Fraction[] answer = new Fraction[n];
            for (int k = 0; k < n; k++) {
                answer[k] = rows[k][n].over(rows[k][k]);
            }
            return answer;
        }

        int prove() {
            field = null;
            Found best = best(0);
            if (best == null) return -6;
            for (Found found : found()) {
                if (costOf(found, 0).compareTo(best.cost) == 0 && proves(found, best.cost)) return found.bars;
            }
            return -6;
        }

        private boolean proves(Found found, Fraction cost) {
            List<Integer> set = new ArrayList<>();
            List<Integer> unused = new ArrayList<>();
            for (int b = 0; b < bars.size(); b++) {
                if ((found.bars >> b & 1) == 1) {
                    set.add(b);
                    if (found.pulls[b].sign() == 0) unused.add(b);
                }
            }
            for (int signs = 0; signs < 1 << unused.size(); signs++) {
                int[] wanted = new int[set.size()];
                for (int i = 0; i < set.size(); i++) {
                    int place = unused.indexOf(set.get(i));
                    int sign = place < 0 ? found.pulls[set.get(i)].sign() : (signs >> place & 1) == 0 ? 1 : -1;
                    wanted[i] = sign * stuff(set.get(i));
                }
                Fraction[][] tried = fieldFor(set, wanted);
                if (isGood(tried, cost)) {
                    field = tried;
                    return true;
                }
            }
            return false;
        }

        private Fraction[][] fieldFor(List<Integer> set, int[] wanted) {
            Fraction[][] rows = new Fraction[set.size()][set.size() + 1];
            for (int i = 0; i < set.size(); i++) {
                int column = 0;
                for (int j = 0; j < joints.size(); j++) {
                    for (int axis = 0; axis < 2 && !joints.get(j).fixed; axis++) {
                        rows[i][column++] = Fraction.of(-way(set.get(i), j, axis));
                    }
                }
                rows[i][column] = Fraction.of(wanted[i]);
            }
            Fraction[] answer = solve(rows);
            Fraction[][] tried = new Fraction[joints.size()][2];
            int column = 0;
            for (int j = 0; j < joints.size(); j++) {
                for (int axis = 0; axis < 2; axis++) {
                    tried[j][axis] = joints.get(j).fixed ? Fraction.ZERO : answer[column++];
                }
            }
            return tried;
        }

        private boolean isGood(Fraction[][] tried, Fraction cost) {
            Fraction work = Fraction.ZERO;
            for (int j = 0; j < joints.size(); j++) {
                for (int axis = 0; axis < 2; axis++) {
                    work = work.plus(Fraction.of(loads[j][axis]).times(tried[j][axis]));
                }
            }
            for (int b = 0; b < bars.size(); b++) {
                if (below(tried, b).sign() < 0) return false;
            }
            return work.compareTo(cost) == 0;
        }

        private Fraction below(Fraction[][] tried, int b) {
            Joint from = joints.get(bars.get(b).a);
            Joint to = joints.get(bars.get(b).b);
            Fraction[] one = tried[bars.get(b).a];
            Fraction[] other = tried[bars.get(b).b];
            Fraction number = Fraction.of(from.x - to.x).times(one[0].minus(other[0]))
                .plus(Fraction.of(from.y - to.y).times(one[1].minus(other[1])));
            return Fraction.of(stuff(b)).minus(number.size());
        }

        long field(int j, int which, int part) {
            if (field == null) return LOST - 3;
            if (noJoint(j)) return LOST - 1;
            if (which < 0 || which > 1 || part < 0 || part > 1) return LOST - 2;
            return field[j][which].part(part);
        }

        long slack(int b, int part) {
            if (field == null) return LOST - 3;
            if (noBar(b)) return LOST - 1;
            if (part < 0 || part > 1) return LOST - 2;
            return below(field, b).part(part);
        }
    }
}
