/** What the tests share: comparing an answer with the one that is due, and making panels quickly. */
final class Checks {
    static final int NONE = -1, UNKNOWN = -10001, OUTSIDE = -10002, STATE = -10003, FULL = -10004;
    private static int wrong;
    private static int made;
    private static String sentence = "";

    private Checks() {
    }

    /** Names the words of the document, and where they stand, that the following checks are about. */
    static void sentence(String where, String words) {
        sentence = where + ", \"" + words + "\": ";
        holds("that these words stand there", Document.quote(where, words));
    }

    /** Names something else than words of the document. */
    static void about(String what) {
        sentence = what + ": ";
    }

    static void due(String call, long got, long want) {
        made++;
        if (got != want) {
            wrong++;
            System.out.println(sentence + call + " answered " + got + ", due is " + want);
        }
    }

    static void holds(String what, boolean fact) {
        due(what, fact ? 1 : 0, 1);
    }

    static void end() {
        System.out.println(wrong == 0 ? made + " answers are as due" : wrong + " answers are not as due");
        if (wrong != 0) System.exit(1);
    }

    static FeltGlass panel(int wide, int high) {
        FeltGlass x = new FeltGlass();
        due("glass(" + wide + ", " + high + ")", x.glass(wide, high), wide * high);
        return x;
    }

    /** A panel whose baselines stay, whose frames are hardly ever noisy and on which low valleys part the hills. */
    static FeltGlass still(int wide, int high) {
        FeltGlass x = panel(wide, high);
        x.bound(7, 0);
        x.bound(8, 200);
        x.bound(2, 100);
        return x;
    }

    static void type(FeltGlass x, String text) {
        for (char c : text.toCharArray()) x.letter(c);
    }

    /** The fault of a text on an empty page, which is empty again afterwards. */
    static void fault(FeltGlass x, String text, int want) {
        type(x, text);
        due("fault() of " + text, x.fault(), want);
        due("blank() after " + text, x.blank(), text.length());
    }

    static void reads(FeltGlass x, String text, int want) {
        type(x, text);
        due("fingers() of " + text, x.fingers(), want);
        due("count(0) after " + text, x.count(0), 0);
    }

    static void refuses(FeltGlass x, String text) {
        type(x, text);
        long before = x.digest();
        due("fingers() of " + text, x.fingers(), STATE);
        due("digest() after refused " + text, x.digest(), before);
        due("blank() after " + text, x.blank(), text.length());
    }

    /** Lets cells sense that much above the first baseline of 100: a cell, its delta, a cell, its delta, .. */
    static void raise(FeltGlass x, int... cellsAndDeltas) {
        for (int i = 0; i + 1 < cellsAndDeltas.length; i += 2) {
            x.air(cellsAndDeltas[i], 100 + cellsAndDeltas[i + 1]);
        }
    }

    /** Runs the numbers through the hash of promise 23, from a given value on. */
    static long hash(long from, int... numbers) {
        long h = from;
        for (int number : numbers) h = 31 * h + number;
        return h;
    }
}
