import java.util.ArrayList;
import java.util.List;
import java.util.function.Supplier;
import java.util.function.ToIntFunction;

/** The section ERRORS: the codes, their order, NONE, and that a call that returns an error code changes nothing. */
public final class ErrorEdgesTest {
    private static final int NONE = Checks.NONE, UNKNOWN = Checks.UNKNOWN, OUTSIDE = Checks.OUTSIDE;
    private static final int STATE = Checks.STATE, FULL = Checks.FULL;
    private static final int LOW = Integer.MIN_VALUE, TOP = Integer.MAX_VALUE;
    private static final int[] FIRST_SETTINGS = {40, 20, 80, 10, 24, 1, 6, 2, 30};

    /** A call and the error code that is due. */
    private record Wrong(String call, int code, ToIntFunction<FeltGlass> run) {
    }

    public static void main(String[] args) {
        codes();
        firstCodeThatApplies();
        noneOnlyWithoutError();
        nothingChangesWithoutPanel();
        nothingChangesOnANewPanel();
        nothingChangesOnABusyPanel();
        nothingChangesAfterANoisyFrame();
        Checks.end();
    }

    private static void sentence(String words) {
        Checks.sentence("ERRORS", words);
    }

    private static void due(String call, long got, long want) {
        Checks.due(call, got, want);
    }

    private static void codes() {
        sentence("The error codes are UNKNOWN (-10001)");
        due("UNKNOWN", FeltGlass.UNKNOWN, -10001);
        due("OUTSIDE", FeltGlass.OUTSIDE, -10002);
        due("STATE", FeltGlass.STATE, -10003);
        due("FULL", FeltGlass.FULL, -10004);
        due("NONE", FeltGlass.NONE, -1);
    }

    private static void firstCodeThatApplies() {
        sentence("Each method names its error codes in the order in which they are checked; the first one that applies"
            + " is returned.");
        for (Wrong wrong : severalErrorsWithoutPanel()) {
            due("without panel " + wrong.call, wrong.run.applyAsInt(new FeltGlass()), wrong.code);
        }
        for (Wrong wrong : severalErrorsOnAPanel()) {
            due("on a busy panel " + wrong.call, wrong.run.applyAsInt(Busy.panel()), wrong.code);
        }
    }

    private static List<Wrong> severalErrorsWithoutPanel() {
        List<Wrong> all = new ArrayList<>();
        all.add(new Wrong("air(-1, -1)", UNKNOWN, x -> x.air(-1, -1)));
        all.add(new Wrong("air(0, 1000)", UNKNOWN, x -> x.air(0, 1000)));
        all.add(new Wrong("warm(100)", STATE, x -> x.warm(100)));
        all.add(new Wrong("noise(3, 61)", STATE, x -> x.noise(3, 61)));
        all.add(new Wrong("seed(-1)", STATE, x -> x.seed(-1)));
        all.add(new Wrong("bound(9, -1)", STATE, x -> x.bound(9, -1)));
        all.add(new Wrong("frames(0)", STATE, x -> x.frames(0)));
        all.add(new Wrong("frames(21)", STATE, x -> x.frames(21)));
        all.add(new Wrong("finger(5, 4)", STATE, x -> x.finger(5, 4)));
        all.add(new Wrong("finger(0, 4)", STATE, x -> x.finger(0, 4)));
        all.add(new Wrong("finger(5, 0)", STATE, x -> x.finger(5, 0)));
        all.add(new Wrong("cell(0, 6)", UNKNOWN, x -> x.cell(0, 6)));
        all.add(new Wrong("about(9)", STATE, x -> x.about(9)));
        all.add(new Wrong("spot(0, 6)", UNKNOWN, x -> x.spot(0, 6)));
        all.add(new Wrong("track(0, 9)", UNKNOWN, x -> x.track(0, 9)));
        all.add(new Wrong("as(0, 2)", UNKNOWN, x -> x.as(0, 2)));
        all.add(new Wrong("event(0, 3)", UNKNOWN, x -> x.event(0, 3)));
        return all;
    }

    private static List<Wrong> severalErrorsOnAPanel() {
        List<Wrong> all = new ArrayList<>();
        all.add(new Wrong("letter(127)", OUTSIDE, x -> x.letter(127)));
        all.add(new Wrong("letter(31)", OUTSIDE, x -> x.letter(31)));
        all.add(new Wrong("air(25, 1000)", UNKNOWN, x -> x.air(25, 1000)));
        all.add(new Wrong("air(-1, -1)", UNKNOWN, x -> x.air(-1, -1)));
        all.add(new Wrong("finger(5, 4)", UNKNOWN, x -> x.finger(5, 4)));
        all.add(new Wrong("finger(-1, -1)", UNKNOWN, x -> x.finger(-1, -1)));
        all.add(new Wrong("cell(25, 6)", UNKNOWN, x -> x.cell(25, 6)));
        all.add(new Wrong("cell(-1, -1)", UNKNOWN, x -> x.cell(-1, -1)));
        all.add(new Wrong("spot(6, 6)", UNKNOWN, x -> x.spot(6, 6)));
        all.add(new Wrong("spot(-1, -1)", UNKNOWN, x -> x.spot(-1, -1)));
        all.add(new Wrong("track(6, 9)", UNKNOWN, x -> x.track(6, 9)));
        all.add(new Wrong("track(-1, -1)", UNKNOWN, x -> x.track(-1, -1)));
        all.add(new Wrong("as(6, 2)", UNKNOWN, x -> x.as(6, 2)));
        all.add(new Wrong("as(-1, -1)", UNKNOWN, x -> x.as(-1, -1)));
        all.add(new Wrong("event(12, 3)", UNKNOWN, x -> x.event(12, 3)));
        all.add(new Wrong("event(-1, -1)", UNKNOWN, x -> x.event(-1, -1)));
        return all;
    }

    private static void noneOnlyWithoutError() {
        sentence("NONE (-1) means that there is no such value; it is returned only if no error code applies.");
        FeltGlass x = Checks.panel(3, 3);
        due("finger(0, 1)", x.finger(0, 1), NONE);
        due("finger(0, 3)", x.finger(0, 3), NONE);
        due("finger(0, 4)", x.finger(0, 4), OUTSIDE);
        due("finger(5, 1)", x.finger(5, 1), UNKNOWN);
        due("finger(0, 1) without panel", new FeltGlass().finger(0, 1), STATE);
        due("cell(0, 4)", x.cell(0, 4), NONE);
        due("cell(9, 4)", x.cell(9, 4), UNKNOWN);
        due("cell(0, 4) without panel", new FeltGlass().cell(0, 4), UNKNOWN);
        Checks.raise(x, 4, 50);
        x.frames(1);
        due("as(0, 1)", x.as(0, 1), NONE);
        due("as(0, 2)", x.as(0, 2), OUTSIDE);
        due("as(1, 1)", x.as(1, 1), UNKNOWN);
        due("spot(1, 5)", x.spot(1, 5), UNKNOWN);
    }

    // ---- A call that returns an error code changes nothing.

    private static void nothingChangesWithoutPanel() {
        sentence("A call that returns an error code changes nothing.");
        List<Wrong> all = severalErrorsWithoutPanel();
        addWrongSides(all);
        all.add(new Wrong("letter(31)", OUTSIDE, x -> x.letter(31)));
        all.add(new Wrong("letter(127)", OUTSIDE, x -> x.letter(127)));
        all.add(new Wrong("fault()", STATE, x -> x.fault()));
        all.add(new Wrong("fingers()", STATE, x -> x.fingers()));
        all.add(new Wrong("air(0, 5)", UNKNOWN, x -> x.air(0, 5)));
        all.add(new Wrong("warm(5)", STATE, x -> x.warm(5)));
        all.add(new Wrong("noise(0, 5)", STATE, x -> x.noise(0, 5)));
        all.add(new Wrong("seed(5)", STATE, x -> x.seed(5)));
        all.add(new Wrong("bound(0, 50)", STATE, x -> x.bound(0, 50)));
        all.add(new Wrong("settle()", STATE, x -> x.settle()));
        all.add(new Wrong("frames(1)", STATE, x -> x.frames(1)));
        all.add(new Wrong("frames(20)", STATE, x -> x.frames(20)));
        for (String page : new String[] {"", "0-", "0@2,2*60", "x"}) {
            for (Wrong wrong : all) changesNothing(wrong, () -> withPage(page), true);
        }
        Wrong full = new Wrong("letter(48)", FULL, x -> x.letter(48));
        changesNothing(full, () -> withPage(Busy.PAGE), true);
    }

    private static FeltGlass withPage(String page) {
        FeltGlass x = new FeltGlass();
        Checks.type(x, page);
        return x;
    }

    private static void nothingChangesOnANewPanel() {
        sentence("A call that returns an error code changes nothing.");
        List<Wrong> all = wrongOnEveryPanel();
        all.add(new Wrong("spot(0, 0)", UNKNOWN, x -> x.spot(0, 0)));
        all.add(new Wrong("track(0, 0)", UNKNOWN, x -> x.track(0, 0)));
        all.add(new Wrong("as(0, 0)", UNKNOWN, x -> x.as(0, 0)));
        all.add(new Wrong("event(0, 0)", UNKNOWN, x -> x.event(0, 0)));
        for (Wrong wrong : all) changesNothing(wrong, () -> Checks.panel(5, 5), false);
    }

    private static void nothingChangesOnABusyPanel() {
        sentence("A call that returns an error code changes nothing.");
        List<Wrong> all = wrongOnEveryPanel();
        all.addAll(severalErrorsOnAPanel());
        all.add(new Wrong("letter(48)", FULL, x -> x.letter(48)));
        for (Wrong wrong : all) changesNothing(wrong, Busy::panel, false);
    }

    private static void nothingChangesAfterANoisyFrame() {
        sentence("A call that returns an error code changes nothing.");
        List<Wrong> all = wrongOnEveryPanel();
        all.add(new Wrong("spot(0, 0)", UNKNOWN, x -> x.spot(0, 0)));
        all.add(new Wrong("letter(48)", FULL, x -> x.letter(48)));
        for (Wrong wrong : all) changesNothing(wrong, Busy::noisyPanel, false);
    }

    private static void addWrongSides(List<Wrong> all) {
        all.add(new Wrong("glass(2, 5)", OUTSIDE, x -> x.glass(2, 5)));
        all.add(new Wrong("glass(5, 2)", OUTSIDE, x -> x.glass(5, 2)));
        all.add(new Wrong("glass(9, 5)", OUTSIDE, x -> x.glass(9, 5)));
        all.add(new Wrong("glass(5, 9)", OUTSIDE, x -> x.glass(5, 9)));
        all.add(new Wrong("count(6)", OUTSIDE, x -> x.count(6)));
        all.add(new Wrong("count(-1)", OUTSIDE, x -> x.count(-1)));
        all.add(new Wrong("events(0)", OUTSIDE, x -> x.events(0)));
        all.add(new Wrong("events(5)", OUTSIDE, x -> x.events(5)));
    }

    /** Wrong calls on a panel of 25 cells whose page is no text of fingers. */
    private static List<Wrong> wrongOnEveryPanel() {
        List<Wrong> all = new ArrayList<>();
        addWrongSides(all);
        all.add(new Wrong("letter(31)", OUTSIDE, x -> x.letter(31)));
        all.add(new Wrong("letter(127)", OUTSIDE, x -> x.letter(127)));
        all.add(new Wrong("fingers()", STATE, x -> x.fingers()));
        for (int cell : new int[] {-1, 25, LOW, TOP}) {
            all.add(new Wrong("air(" + cell + ", 5)", UNKNOWN, x -> x.air(cell, 5)));
            all.add(new Wrong("cell(" + cell + ", 0)", UNKNOWN, x -> x.cell(cell, 0)));
        }
        for (int v : new int[] {-1, 1000}) all.add(new Wrong("air(24, " + v + ")", OUTSIDE, x -> x.air(24, v)));
        for (int by : new int[] {-100, 100}) all.add(new Wrong("warm(" + by + ")", OUTSIDE, x -> x.warm(by)));
        for (int drive : new int[] {-1, 3}) {
            all.add(new Wrong("noise(" + drive + ", 5)", OUTSIDE, x -> x.noise(drive, 5)));
        }
        for (int drive = 0; drive <= 2; drive++) {
            int right = drive;
            all.add(new Wrong("noise(" + drive + ", -1)", OUTSIDE, x -> x.noise(right, -1)));
            all.add(new Wrong("noise(" + drive + ", 61)", OUTSIDE, x -> x.noise(right, 61)));
        }
        for (int v : new int[] {-1, LOW}) all.add(new Wrong("seed(" + v + ")", OUTSIDE, x -> x.seed(v)));
        addWrongSettings(all);
        for (int n : new int[] {0, 21, -1, TOP}) all.add(new Wrong("frames(" + n + ")", OUTSIDE, x -> x.frames(n)));
        all.add(new Wrong("finger(5, 0)", UNKNOWN, x -> x.finger(5, 0)));
        all.add(new Wrong("finger(4, 4)", OUTSIDE, x -> x.finger(4, 4)));
        all.add(new Wrong("cell(24, 6)", OUTSIDE, x -> x.cell(24, 6)));
        all.add(new Wrong("about(9)", OUTSIDE, x -> x.about(9)));
        return all;
    }

    private static void addWrongSettings(List<Wrong> all) {
        int[] least = {20, 10, 1, 2, 1, 0, 1, 0, 0}, most = {200, 100, 100, 64, 127, 9, 30, 50, 200};
        for (int what = 0; what <= 8; what++) {
            int setting = what;
            all.add(new Wrong("bound(" + what + ", least - 1)", OUTSIDE, x -> x.bound(setting, least[setting] - 1)));
            all.add(new Wrong("bound(" + what + ", most + 1)", OUTSIDE, x -> x.bound(setting, most[setting] + 1)));
        }
        all.add(new Wrong("bound(-1, 20)", OUTSIDE, x -> x.bound(-1, 20)));
        all.add(new Wrong("bound(9, 20)", OUTSIDE, x -> x.bound(9, 20)));
    }

    /** After the wrong call the object answers as a twin does to which it was not made, now and later on. */
    private static void changesNothing(Wrong wrong, Supplier<FeltGlass> state, boolean panelLater) {
        FeltGlass x = state.get(), twin = state.get();
        due(wrong.call, wrong.run.applyAsInt(x), wrong.code);
        due("digest() after " + wrong.call, x.digest(), twin.digest());
        if (panelLater) {
            due("panel after " + wrong.call, x.glass(5, 5), twin.glass(5, 5));
            due("fingers() after " + wrong.call, x.fingers(), twin.fingers());
        }
        due("frames(3) after " + wrong.call, x.frames(3), twin.frames(3));
        due("digest() after frames after " + wrong.call, x.digest(), twin.digest());
        for (int drive = 0; drive <= 2; drive++) {
            due("noise of " + drive + " after " + wrong.call, x.noise(drive, 9), twin.noise(drive, 9));
        }
        for (int what = 0; what <= 8; what++) {
            int first = FIRST_SETTINGS[what];
            due("setting " + what + " after " + wrong.call, x.bound(what, first), twin.bound(what, first));
        }
        due("blank() after " + wrong.call, x.blank(), twin.blank());
        due("digest() at last after " + wrong.call, x.digest(), twin.digest());
    }
}
