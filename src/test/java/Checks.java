/** What the tests share: comparing an answer with the one that is due, and making panels quickly. */
final class Checks {
    static final int NONE = -1, UNKNOWN = -10001, OUTSIDE = -10002, STATE = -10003, FULL = -10004;
    private static int wrong;
    private static int made;

    private Checks() {
    }

    static void due(String call, long got, long want) {
        made++;
        if (got != want) {
            wrong++;
            System.out.println(call + " answered " + got + ", due is " + want);
        }
    }

    static void end() {
        System.out.println(wrong == 0 ? made + " answers are as due" : wrong + " answers are not as due");
        if (wrong != 0) System.exit(1);
    }

    static FeltGlass panel(int wide, int high) {
        FeltGlass x = new FeltGlass();
        due("glass(" + wide + ", " + high + ")", x.glass(wide, high), wide * high);
        return x;
    }

    static void type(FeltGlass x, String text) {
        for (char c : text.toCharArray()) x.letter(c);
    }

    /** The fault of a text on an empty page, which is empty again afterwards. */
    static void fault(FeltGlass x, String text, int want) {
        type(x, text);
        due("fault() of " + text, x.fault(), want);
        due("blank() after " + text, x.blank(), text.length());
    }

    static void reads(FeltGlass x, String text, int want) {
        type(x, text);
        due("fingers() of " + text, x.fingers(), want);
        due("count(0) after " + text, x.count(0), 0);
    }

    static void refuses(FeltGlass x, String text) {
        type(x, text);
        long before = x.digest();
        due("fingers() of " + text, x.fingers(), STATE);
        due("digest() after refused " + text, x.digest(), before);
        due("blank() after " + text, x.blank(), text.length());
    }

    /** Lets a cell sense that much above the first baseline of 100. */
    static void raise(FeltGlass x, int cell, int by) {
        x.air(cell, 100 + by);
    }
}
