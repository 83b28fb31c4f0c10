/** Counts the answers that are not as due, each told with the sentence of the document that asks for it. */
final class Due {
    static final long LOST = -1000000000000000L;
    private static String sentence = "";
    private static int sentences = 0;
    private static int asked = 0;
    private static int wrong = 0;

    private Due() {
    }

    /** What follows tests this sentence. */
    static void sentence(String words) {
        sentence = words;
        sentences++;
    }

    static void due(String call, long got, long want) {
        asked++;
        if (got != want) {
            wrong++;
            System.out.println("\"" + sentence + "\" " + call + ": answered " + got + ", due is " + want);
        }
    }

    /** A fraction as a call tells it: the upper number, then the lower one. */
    static void dueFraction(String call, long gotTop, long gotBottom, long top, long bottom) {
        due(call + ", upper number", gotTop, top);
        due(call + ", lower number", gotBottom, bottom);
    }

    static void end() {
        System.out.println(sentences + " sentences, " + asked + " answers asked, " + wrong + " not as due");
        if (wrong != 0) {
            System.exit(1);
        }
    }
}
