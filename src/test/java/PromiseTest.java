/** Each promise by itself: ordinary inputs, the edges that the document names, wrong inputs. */
public final class PromiseTest {
    private static final long LOST = -1000000000000000L;
    private static int wrong = 0;
    private static int asked = 0;

    private static void due(String what, long got, long want) {
        asked++;
        if (got != want) {
            wrong++;
            System.out.println(what + ": answered " + got + ", due is " + want);
        }
    }

    public static void main(String[] args) {
        promise1NewObject();
        promise2Joint();
        promise3Bar();
        promise4Load();
        promise5About();
        promise6OfBar();
        promise7Size();
        promise8Price();
        promise9Drop();
        promise10Cross();
        promise11Stiff();
        promise12Choices();
        promise13Frame();
        promise14Cost();
        promise15Pull();
        promise16Used();
        promise17Sized();
        promise18Prove();
        promise19Field();
        promise20Slack();
        promise21Told();
        refusalsChangeNothing();
        System.out.println(asked + " answers asked, " + wrong + " not as due");
        if (wrong != 0) {
            System.exit(1);
        }
    }

    /** A free joint at 3, 3 held from 0, 0 (bar 0), 6, 0 (bar 1) and 3, 0 (bar 2). */
    private static LightFrame tripod() {
        LightFrame f = new LightFrame();
        f.joint(3, 3, false);
        f.joint(0, 0, true);
        f.joint(6, 0, true);
        f.joint(3, 0, true);
        f.bar(0, 1);
        f.bar(2, 0);
        f.bar(0, 3);
        return f;
    }

    /** Six joints, three of them free, at places without a line of three. */
    private static LightFrame sixJoints() {
        LightFrame f = new LightFrame();
        f.joint(2, 2, false);
        f.joint(4, 3, false);
        f.joint(2, 5, false);
        f.joint(0, 0, true);
        f.joint(6, 0, true);
        f.joint(6, 6, true);
        return f;
    }

    private static LightFrame tenBars() {
        LightFrame f = sixJoints();
        int bars = 0;
        for (int a = 0; a < 3; a++) {
            for (int b = a + 1; b < 6 && bars < 10; b++) {
                due("ten bars", f.bar(a, b), bars);
                bars++;
            }
        }
        return f;
    }

    private static void promise1NewObject() {
        LightFrame f = new LightFrame();
        for (int what = 0; what <= 4; what++) {
            due("1 new told " + what, f.told(what), 0);
        }
        due("1 new choices", f.choices(), 1);
        due("1 new stiff", f.stiff(0), 1);
        for (int kind = 0; kind < 4; kind++) {
            due("1 new frame", f.frame(kind), 0);
            due("1 new cost", f.cost(kind, 0), 0);
            due("1 new cost below", f.cost(kind, 1), 1);
            due("1 new used", f.used(kind, 0), 0);
            due("1 new used joints", f.used(kind, 1), 0);
        }
        due("1 new drop", f.drop(), -1);
        due("1 new prove", f.prove(), 0);
        due("1 new field", f.field(0, 0, 0), LOST - 1);
        due("1 new slack", f.slack(0, 0), LOST - 1);
        due("1 two objects", tripod().told(0), 4);
        due("1 the other is still new", f.told(0), 0);
    }

    private static void promise2Joint() {
        LightFrame f = new LightFrame();
        due("2 x below", f.joint(-1, 0, true), -2);
        due("2 x above", f.joint(7, 0, true), -2);
        due("2 y below", f.joint(0, -1, true), -2);
        due("2 y above", f.joint(0, 7, true), -2);
        due("2 far", f.joint(Integer.MIN_VALUE, Integer.MAX_VALUE, false), -2);
        due("2 corner", f.joint(0, 0, false), 0);
        due("2 far corner", f.joint(6, 6, false), 1);
        due("2 taken", f.joint(6, 6, true), -5);
        due("2 same x", f.joint(6, 5, false), 2);
        due("2 fourth free", f.joint(1, 1, false), -4);
        due("2 full ahead of no", f.joint(0, 0, false), -4);
        due("2 outside ahead of full", f.joint(0, 7, false), -2);
        due("2 taken, fixed", f.joint(0, 0, true), -5);
        due("2 fixed goes on", f.joint(0, 6, true), 3);
        due("2 fixed", f.joint(5, 6, true), 4);
        due("2 sixth", f.joint(6, 0, true), 5);
        due("2 seventh", f.joint(3, 3, true), -4);
        due("2 six: full ahead of no", f.joint(6, 0, true), -4);
        due("2 six: outside ahead of full", f.joint(-1, 0, true), -2);
        due("2 joints", f.told(0), 6);
        LightFrame fixed = new LightFrame();
        for (int x = 0; x < 6; x++) {
            due("2 six fixed", fixed.joint(x, 0, true), x);
        }
        due("2 a free seventh", fixed.joint(0, 1, false), -4);
    }

    private static void promise3Bar() {
        LightFrame f = sixJoints();
        due("3 one and the same", f.bar(2, 2), -1);
        due("3 below", f.bar(-1, 0), -1);
        due("3 below, other", f.bar(0, -1), -1);
        due("3 above", f.bar(6, 0), -1);
        due("3 above, other", f.bar(0, 6), -1);
        due("3 first", f.bar(3, 1), 0);
        due("3 again", f.bar(3, 1), -5);
        due("3 again, turned", f.bar(1, 3), -5);
        due("3 between fixed ones", f.bar(3, 4), 1);
        due("3 bars", f.told(2), 2);
        LightFrame ten = tenBars();
        due("3 eleventh", ten.bar(2, 4), -4);
        due("3 full ahead of no", ten.bar(0, 1), -4);
        due("3 unknown ahead of full", ten.bar(0, 6), -1);
        due("3 one and the same, full", ten.bar(0, 0), -1);
        due("3 room again", ten.drop(), 9);
        due("3 tenth again", ten.bar(5, 2), 9);
        due("3 tenth from", ten.ofBar(9, 0), 5);
    }

    private static void promise4Load() {
        LightFrame f = tripod();
        due("4 unknown", f.load(4, 0, 0), -1);
        due("4 unknown ahead", f.load(-1, 21, 0), -1);
        due("4 px above", f.load(0, 21, 0), -2);
        due("4 px below", f.load(0, -21, 0), -2);
        due("4 py above", f.load(0, 0, 21), -2);
        due("4 py below", f.load(0, 0, -21), -2);
        due("4 outside ahead of no", f.load(1, 21, 0), -2);
        due("4 fixed", f.load(1, 1, 1), -5);
        due("4 least", f.load(0, -20, -20), 1);
        due("4 px", f.about(0, 3), -20);
        due("4 greatest", f.load(0, 20, 20), 1);
        due("4 py", f.about(0, 4), 20);
        due("4 the latest counts", f.load(0, 1, 2), 1);
        due("4 px, latest", f.about(0, 3), 1);
        due("4 py, latest", f.about(0, 4), 2);
    }

    private static void promise5About() {
        LightFrame f = new LightFrame();
        f.joint(1, 2, true);
        f.joint(3, 4, false);
        f.joint(5, 6, false);
        f.load(2, -7, 8);
        long[][] want = {{1, 2, 1, 0, 0}, {3, 4, 0, 0, 0}, {5, 6, 0, -7, 8}};
        for (int joint = 0; joint < 3; joint++) {
            for (int what = 0; what < 5; what++) {
                due("5 about " + joint + " " + what, f.about(joint, what), want[joint][what]);
            }
        }
        due("5 unknown", f.about(3, 0), -101);
        due("5 unknown below", f.about(-1, 0), -101);
        due("5 unknown ahead", f.about(3, 5), -101);
        due("5 outside", f.about(0, 5), -102);
        due("5 outside below", f.about(0, -1), -102);
    }

    private static void promise6OfBar() {
        LightFrame f = sixJoints();
        f.bar(5, 3);
        f.bar(0, 1);
        due("6 first joint as told", f.ofBar(0, 0), 5);
        due("6 second joint as told", f.ofBar(0, 1), 3);
        due("6 stuff, longest", f.ofBar(0, 2), 72);
        due("6 first", f.ofBar(1, 0), 0);
        due("6 second", f.ofBar(1, 1), 1);
        due("6 stuff", f.ofBar(1, 2), 5);
        due("6 unknown", f.ofBar(2, 0), -1);
        due("6 unknown below", f.ofBar(-1, 0), -1);
        due("6 unknown ahead", f.ofBar(2, 3), -1);
        due("6 outside", f.ofBar(0, 3), -2);
        due("6 outside below", f.ofBar(0, -1), -2);
    }

    private static void promise7Size() {
        LightFrame f = new LightFrame();
        due("7 below", f.size(0), -2);
        due("7 above", f.size(201), -2);
        due("7 greatest", f.size(200), 1);
        due("7 least", f.size(1), 2);
        due("7 again", f.size(200), -5);
        due("7 third", f.size(7), 3);
        due("7 fourth", f.size(6), 4);
        due("7 fifth", f.size(5), 5);
        due("7 sixth", f.size(4), -4);
        due("7 full ahead of no", f.size(5), -4);
        due("7 outside ahead of full", f.size(-1), -2);
        due("7 sizes", f.told(3), 5);
    }

    private static void promise8Price() {
        LightFrame f = new LightFrame();
        due("8 first", f.price(1000), 0);
        due("8 below", f.price(-1), -2);
        due("8 above", f.price(1001), -2);
        due("8 second", f.price(0), 1000);
        due("8 third", f.price(3), 0);
        due("8 told", f.told(4), 3);
    }

    private static void promise9Drop() {
        LightFrame f = tripod();
        f.load(0, 0, -6);
        due("9 before", f.frame(0), 5);
        due("9 drop", f.drop(), 2);
        due("9 gone", f.ofBar(2, 0), -1);
        due("9 the others stay", f.ofBar(1, 0), 2);
        due("9 frame without it", f.frame(0), 3);
        due("9 its pair is open", f.bar(3, 0), 2);
        due("9 again as told", f.ofBar(2, 0), 3);
        due("9 frame with it", f.frame(0), 5);
        due("9 drop", f.drop(), 2);
        due("9 drop", f.drop(), 1);
        due("9 drop", f.drop(), 0);
        due("9 none", f.drop(), -1);
    }

    private static int crossing(int[] one, int[] other) {
        LightFrame f = new LightFrame();
        int[][] ends = {{one[0], one[1]}, {one[2], one[3]}, {other[0], other[1]}, {other[2], other[3]}};
        int[] joints = new int[4];
        for (int i = 0; i < 4; i++) {
            joints[i] = f.joint(ends[i][0], ends[i][1], true);
            for (int before = 0; joints[i] == -5 && before < i; before++) {
                if (ends[before][0] == ends[i][0] && ends[before][1] == ends[i][1]) {
                    joints[i] = joints[before];
                }
            }
        }
        f.bar(joints[0], joints[1]);
        f.bar(joints[2], joints[3]);
        int answer = f.cross(0, 1);
        due("10 both ways alike", f.cross(1, 0), answer);
        return answer;
    }

    private static int[] way(int... numbers) {
        return numbers;
    }

    private static void promise10Cross() {
        due("10 inside both", crossing(way(0, 0, 6, 6), way(0, 6, 6, 0)), 1);
        due("10 inside, no whole place", crossing(way(0, 0, 5, 3), way(1, 2, 3, 0)), 1);
        due("10 side by side", crossing(way(0, 0, 6, 0), way(0, 1, 6, 1)), 0);
        due("10 lines meet outside", crossing(way(0, 0, 1, 1), way(0, 6, 6, 5)), 0);
        due("10 line of one meets the other", crossing(way(0, 0, 6, 0), way(3, 1, 3, 6)), 0);
        due("10 an end inside", crossing(way(0, 0, 6, 0), way(3, 0, 3, 6)), 1);
        due("10 an end inside, slanted", crossing(way(4, 6, 2, 2), way(0, 0, 4, 4)), 1);
        due("10 a joint in common", crossing(way(0, 0, 6, 0), way(0, 0, 0, 6)), 0);
        due("10 in common, straight on", crossing(way(0, 0, 3, 3), way(3, 3, 6, 6)), 0);
        due("10 in common, one on the other", crossing(way(0, 0, 3, 3), way(0, 0, 6, 6)), 1);
        due("10 in common at far ends", crossing(way(3, 3, 6, 6), way(0, 0, 6, 6)), 1);
        due("10 in common, end and start", crossing(way(2, 1, 0, 0), way(0, 0, 4, 2)), 1);
        due("10 in common, start and end", crossing(way(0, 0, 2, 1), way(4, 2, 0, 0)), 1);
        due("10 one within the other", crossing(way(0, 2, 6, 2), way(2, 2, 4, 2)), 1);
        due("10 one around the other", crossing(way(2, 4, 2, 2), way(2, 0, 2, 6)), 1);
        due("10 one over a part of the other", crossing(way(0, 0, 4, 4), way(2, 2, 6, 6)), 1);
        due("10 on one line, apart", crossing(way(0, 0, 2, 2), way(4, 4, 6, 6)), 0);
        due("10 on one line up, apart", crossing(way(0, 0, 0, 2), way(0, 3, 0, 6)), 0);
        LightFrame f = tripod();
        due("10 one and the same", f.cross(1, 1), -1);
        due("10 unknown", f.cross(0, 3), -1);
        due("10 unknown below", f.cross(-1, 0), -1);
        f.bar(1, 3);
        due("10 known now", f.cross(0, 3), 0);
        f.drop();
        f.bar(1, 2);
        due("10 another bar of that number", f.cross(2, 3), 1);
    }

    private static void promise11Stiff() {
        LightFrame f = tripod();
        due("11 all", f.stiff(7), 1);
        due("11 two", f.stiff(6), 1);
        due("11 one", f.stiff(4), 0);
        due("11 none", f.stiff(0), 0);
        due("11 beyond", f.stiff(8), -2);
        due("11 below", f.stiff(-1), -2);
        due("11 lowest", f.stiff(Integer.MIN_VALUE), -2);
        LightFrame line = new LightFrame();
        line.joint(3, 0, false);
        line.joint(0, 0, true);
        line.joint(6, 0, true);
        line.bar(0, 1);
        line.bar(0, 2);
        due("11 two on a line", line.stiff(3), 0);
        LightFrame fixed = new LightFrame();
        fixed.joint(0, 0, true);
        fixed.joint(1, 0, true);
        fixed.bar(0, 1);
        due("11 no free joint", fixed.stiff(0), 1);
        due("11 no free joint, a bar", fixed.stiff(1), 1);
        LightFrame ten = tenBars();
        due("11 ten bars", ten.stiff(1023), 1);
        due("11 ten bars, beyond", ten.stiff(1024), -2);
    }

    private static void promise12Choices() {
        LightFrame f = tripod();
        due("12 pairs of three", f.choices(), 3);
        f.bar(1, 3);
        due("12 a bar between fixed ones is in none", f.choices(), 3);
        f.joint(6, 6, true);
        f.bar(0, 4);
        due("12 two on one line", f.choices(), 5);
        f.joint(5, 1, false);
        due("12 a free joint without bars", f.choices(), 0);
        due("12 fewer bars than rows", sixJoints().choices(), 0);
    }

    private static void promise13Frame() {
        LightFrame f = tripod();
        due("13 no load: the first", f.frame(0), 3);
        f.load(0, 0, -6);
        due("13 first of two alike", f.frame(0), 5);
        f.load(0, 1, 1);
        due("13 along bar 0", f.frame(0), 3);
        due("13 kind below", f.frame(-1), -2);
        due("13 kind above", f.frame(4), -2);
        due("13 no size: none", f.frame(2), -6);
        f.size(1);
        due("13 a size", f.frame(2), 3);
        LightFrame loose = new LightFrame();
        loose.joint(0, 0, false);
        for (int kind = 0; kind < 4; kind++) {
            due("13 loose", loose.frame(kind), -6);
        }
        crossingFrame();
    }

    /** Two free joints with loads along bars 0 and 1, which cross; going around costs 26 in place of 25. */
    private static LightFrame crossed() {
        LightFrame f = new LightFrame();
        f.joint(2, 3, false);
        f.joint(4, 3, false);
        f.joint(0, 0, true);
        f.joint(6, 0, true);
        f.joint(0, 6, true);
        f.joint(6, 6, true);
        f.bar(0, 3);
        f.bar(1, 2);
        f.bar(0, 2);
        f.bar(0, 4);
        f.bar(1, 3);
        f.bar(1, 5);
        f.load(0, -4, 3);
        f.load(1, 4, 3);
        return f;
    }

    private static void crossingFrame() {
        LightFrame f = crossed();
        due("13 crossed", f.cross(0, 1), 1);
        due("13 lightest crosses", f.used(0, 0), 3);
        due("13 lightest", f.frame(0), 23);
        due("13 cost of it", f.cost(0, 0), 50);
        due("13 uncrossed frame", f.frame(1), 53);
        due("13 uncrossed uses", f.used(1, 0), 49);
        due("13 cost uncrossed", f.cost(1, 0), 51);
        due("13 cost uncrossed below", f.cost(1, 1), 1);
        due("13 pull uncrossed", f.pull(1, 5, 0), -3);
        due("13 pull uncrossed below", f.pull(1, 5, 1), 2);
        f.price(1000);
        due("13 fewest joints", f.frame(3), 23);
        due("13 with its price", f.cost(3, 0), 4050);
    }

    private static void promise14Cost() {
        LightFrame f = tripod();
        f.size(5);
        f.size(2);
        f.price(7);
        f.load(0, 1, 2);
        due("14 lightest", f.cost(0, 0), 9);
        due("14 lightest below", f.cost(0, 1), 1);
        due("14 sizes", f.cost(2, 0), 54);
        due("14 sizes below", f.cost(2, 1), 1);
        due("14 prices", f.cost(3, 0), 30);
        due("14 prices below", f.cost(3, 1), 1);
        f.price(0);
        due("14 no price", f.cost(3, 0), 9);
        due("14 kind below", f.cost(-1, 0), LOST - 2);
        due("14 kind above", f.cost(4, 0), LOST - 2);
        due("14 what below", f.cost(0, -1), LOST - 2);
        due("14 what above", f.cost(0, 2), LOST - 2);
        LightFrame loose = new LightFrame();
        loose.joint(0, 0, false);
        due("14 none", loose.cost(0, 0), LOST - 6);
        due("14 none below", loose.cost(3, 1), LOST - 6);
        due("14 outside ahead of none", loose.cost(0, 2), LOST - 2);
        LightFrame third = new LightFrame();
        third.joint(3, 3, false);
        third.joint(0, 1, true);
        third.joint(6, 1, true);
        third.bar(0, 1);
        third.bar(0, 2);
        third.load(0, 1, 0);
        due("14 a fraction", third.cost(0, 0), 13);
        due("14 a fraction below", third.cost(0, 1), 3);
    }

    private static void promise15Pull() {
        LightFrame f = tripod();
        f.load(0, 4, -6);
        due("15 frame", f.frame(0), 6);
        due("15 pushed", f.pull(0, 1, 0), -4);
        due("15 pushed below", f.pull(0, 1, 1), 3);
        due("15 lowest terms", f.pull(0, 2, 0), -2);
        due("15 lowest terms below", f.pull(0, 2, 1), 3);
        due("15 not in it", f.pull(0, 0, 0), 0);
        due("15 not in it, below", f.pull(0, 0, 1), 1);
        due("15 unknown", f.pull(0, 3, 0), LOST - 1);
        due("15 unknown below", f.pull(0, -1, 0), LOST - 1);
        due("15 unknown ahead", f.pull(4, 3, 2), LOST - 1);
        due("15 kind", f.pull(4, 0, 0), LOST - 2);
        due("15 kind below", f.pull(-1, 0, 0), LOST - 2);
        due("15 what", f.pull(0, 0, 2), LOST - 2);
        due("15 what below", f.pull(0, 0, -1), LOST - 2);
        due("15 none", f.pull(2, 0, 0), LOST - 6);
        due("15 outside ahead of none", f.pull(2, 0, 2), LOST - 2);
        due("15 unknown ahead of none", f.pull(2, 3, 0), LOST - 1);
        f.load(0, -4, 6);
        due("15 pulled", f.pull(0, 1, 0), 4);
        due("15 pulled below", f.pull(0, 1, 1), 3);
    }

    private static void promise16Used() {
        LightFrame f = tripod();
        f.load(0, 0, -6);
        due("16 bars", f.used(0, 0), 4);
        due("16 joints", f.used(0, 1), 9);
        f.load(0, 4, -6);
        due("16 bars", f.used(0, 0), 6);
        due("16 joints", f.used(0, 1), 13);
        due("16 what above", f.used(0, 2), -2);
        due("16 what below", f.used(0, -1), -2);
        due("16 kind above", f.used(4, 0), -2);
        due("16 kind below", f.used(-1, 0), -2);
        due("16 none", f.used(2, 0), -6);
        due("16 none, joints", f.used(2, 1), -6);
        due("16 outside ahead of none", f.used(2, 2), -2);
    }

    private static void promise17Sized() {
        LightFrame f = tripod();
        f.load(0, 0, -12);
        due("17 no sizes", f.sized(2), -6);
        due("17 unknown ahead of none", f.sized(3), -1);
        f.size(1);
        due("17 too small", f.sized(2), -6);
        f.size(9);
        due("17 the one that is left", f.sized(2), 9);
        f.size(5);
        f.size(4);
        f.size(3);
        due("17 the least that is not below", f.sized(2), 4);
        due("17 its frame", f.frame(2), 5);
        due("17 its cost", f.cost(2, 0), 36);
        due("17 not used, in it", f.sized(0), 0);
        due("17 not in it", f.sized(1), 0);
        due("17 unknown", f.sized(3), -1);
        due("17 unknown below", f.sized(-1), -1);
        f.load(0, 0, 0);
        due("17 no load", f.sized(2), 0);
        LightFrame free = tripod();
        due("17 no load, no sizes", free.sized(0), 0);
        due("17 no load, no sizes: a frame", free.frame(2), 3);
    }

    private static void promise18Prove() {
        LightFrame f = tripod();
        f.load(0, 4, -6);
        due("18 its choice", f.prove(), 6);
        due("18 again", f.prove(), 6);
        LightFrame loose = new LightFrame();
        loose.joint(0, 0, false);
        due("18 no frame", loose.prove(), -6);
        due("18 no frame, no field", loose.field(0, 0, 0), LOST - 3);
        laterChoiceProves();
    }

    /** The first choice of the least cost need not be the one with a good field. */
    private static void laterChoiceProves() {
        LightFrame f = new LightFrame();
        f.joint(0, 0, false);
        f.joint(6, 0, true);
        f.joint(5, 2, true);
        f.joint(0, 6, true);
        f.joint(2, 0, true);
        f.bar(0, 1);
        f.bar(0, 2);
        f.bar(0, 3);
        f.bar(0, 4);
        f.load(0, -1, 0);
        due("18 along a bar", f.frame(0), 10);
        due("18 proved by a later choice", f.prove(), 12);
        due("18 u", f.field(0, 0, 0), -2);
        due("18 v", f.field(0, 1, 0), -6);
    }

    private static void promise19Field() {
        LightFrame f = tripod();
        f.load(0, 4, -6);
        due("19 ahead of all: none yet", f.field(9, 9, 9), LOST - 3);
        f.prove();
        due("19 u", f.field(0, 0, 0), 3);
        due("19 u below", f.field(0, 0, 1), 1);
        due("19 v", f.field(0, 1, 0), -3);
        due("19 v below", f.field(0, 1, 1), 1);
        due("19 fixed", f.field(1, 1, 0), 0);
        due("19 fixed below", f.field(1, 1, 1), 1);
        due("19 unknown", f.field(4, 0, 0), LOST - 1);
        due("19 unknown below", f.field(-1, 0, 0), LOST - 1);
        due("19 unknown ahead of outside", f.field(4, 2, 2), LOST - 1);
        due("19 which", f.field(0, 2, 0), LOST - 2);
        due("19 which below", f.field(0, -1, 0), LOST - 2);
        due("19 part", f.field(0, 0, 2), LOST - 2);
        due("19 part below", f.field(0, 0, -1), LOST - 2);
        endsOfField();
    }

    private static LightFrame proved() {
        LightFrame f = tripod();
        f.load(0, 4, -6);
        f.size(1);
        due("19 proved", f.prove(), 6);
        return f;
    }

    private static void endsOfField() {
        LightFrame f = proved();
        f.joint(0, 0, true);
        f.joint(9, 9, true);
        f.bar(0, 0);
        f.bar(0, 1);
        f.load(1, 0, 0);
        f.load(0, 21, 0);
        f.size(1);
        f.size(0);
        f.price(-1);
        f.frame(0);
        f.choices();
        due("19 refusals and questions leave it", f.field(0, 0, 0), 3);
        f.joint(6, 6, true);
        due("19 a joint ends it", f.field(0, 0, 0), LOST - 3);
        f = proved();
        f.bar(1, 3);
        due("19 a bar ends it", f.field(0, 0, 0), LOST - 3);
        f = proved();
        f.load(0, 4, -6);
        due("19 a load ends it", f.field(0, 0, 0), LOST - 3);
        f = proved();
        f.size(2);
        due("19 a size ends it", f.field(0, 0, 0), LOST - 3);
        f = proved();
        f.price(0);
        due("19 a price ends it", f.field(0, 0, 0), LOST - 3);
        f = proved();
        f.drop();
        due("19 a drop ends it", f.slack(0, 0), LOST - 3);
        due("19 proved anew", f.prove(), 3);
        due("19 another field", f.field(0, 0, 0), 0);
        due("19 another field up", f.field(0, 1, 0), -6);
    }

    private static void promise20Slack() {
        LightFrame f = tripod();
        f.bar(1, 2);
        f.load(0, 4, -6);
        due("20 none yet, ahead", f.slack(9, 9), LOST - 3);
        f.prove();
        due("20 of the choice", f.slack(1, 0), 0);
        due("20 of the choice, below", f.slack(1, 1), 1);
        due("20 of the choice", f.slack(2, 0), 0);
        due("20 of another", f.slack(0, 0), 18);
        due("20 between fixed ones", f.slack(3, 0), 36);
        due("20 unknown", f.slack(4, 0), LOST - 1);
        due("20 unknown below", f.slack(-1, 0), LOST - 1);
        due("20 unknown ahead of outside", f.slack(4, 2), LOST - 1);
        due("20 part", f.slack(0, 2), LOST - 2);
        due("20 part below", f.slack(0, -1), LOST - 2);
        f.joint(2, 1, true);
        f.bar(4, 0);
        f.prove();
        due("20 of the size of its number", f.slack(4, 0), 2);
    }

    private static void promise21Told() {
        LightFrame f = tripod();
        f.size(4);
        f.price(9);
        long[] want = {4, 1, 3, 1, 9};
        for (int what = 0; what < 5; what++) {
            due("21 told " + what, f.told(what), want[what]);
        }
        due("21 below", f.told(-1), -2);
        due("21 above", f.told(5), -2);
    }

    private static void refusalsChangeNothing() {
        LightFrame f = tenBars();
        f.load(1, 3, -4);
        int frame = f.frame(0);
        long cost = f.cost(0, 0);
        f.joint(6, 0, true);
        f.bar(0, 1);
        f.load(3, 1, 1);
        f.load(1, 21, 1);
        f.price(1001);
        f.size(201);
        due("refused: joints", f.told(0), 6);
        due("refused: free ones", f.told(1), 3);
        due("refused: bars", f.told(2), 10);
        due("refused: sizes", f.told(3), 0);
        due("refused: price", f.told(4), 0);
        due("refused: load", f.about(1, 3), 3);
        due("refused: frame", f.frame(0), frame);
        due("refused: cost", f.cost(0, 0), cost);
    }
}
