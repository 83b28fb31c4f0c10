/** All that an object answers without being told anything: 266 calls, none of them prove(). */
final class View {
    private final long[] answers = new long[266];
    private int count = 0;

    private View() {
    }

    private void add(long answer) {
        answers[count] = answer;
        count++;
    }

    static long[] of(LightFrame f) {
        View view = new View();
        view.addProof(f);
        view.addTold(f);
        view.addFrames(f);
        return view.answers;
    }

    private void addProof(LightFrame f) {
        for (int i = 0; i < 24; i++) {
            add(f.field(i / 4, i / 2 % 2, i % 2));
        }
        for (int i = 0; i < 20; i++) {
            add(f.slack(i / 2, i % 2));
        }
    }

    private void addTold(LightFrame f) {
        for (int what = 0; what < 5; what++) {
            add(f.told(what));
        }
        for (int i = 0; i < 30; i++) {
            add(f.about(i / 5, i % 5));
            add(f.ofBar(i / 3, i % 3));
        }
        for (int a = 0; a < 10; a++) {
            for (int b = a + 1; b < 10; b++) {
                add(f.cross(a, b));
            }
        }
    }

    private void addFrames(LightFrame f) {
        add(f.stiff((1 << f.told(2)) - 1));
        add(f.choices());
        for (int kind = 0; kind < 4; kind++) {
            add(f.frame(kind));
            for (int i = 0; i < 2; i++) {
                add(f.cost(kind, i));
                add(f.used(kind, i));
            }
            for (int i = 0; i < 20; i++) {
                add(f.pull(kind, i / 2, i % 2));
            }
        }
        for (int bar = 0; bar < 10; bar++) {
            add(f.sized(bar));
        }
    }

    /** The first place where two views differ; -1 if there is none. */
    static int difference(long[] one, long[] other) {
        for (int i = 0; i < one.length; i++) {
            if (one[i] != other[i]) {
                return i;
            }
        }
        return -1;
    }
}
