/**
 * The sentences of What it is, Description, ERRORS, THE PANEL, A FRAME and THE TEXT OF FINGERS that name no boundary
 * case: ordinary panels and frames, with values worked out by hand.
 */
public final class FrameSentencesTest {
    private static final int NONE = Checks.NONE, UNKNOWN = Checks.UNKNOWN, OUTSIDE = Checks.OUTSIDE;
    private static final int STATE = Checks.STATE, FULL = Checks.FULL;
    private static final int MINIMUM_PEAK = 0, TOUCH = 1, VALLEY = 2, PALM = 3, REACH = 4;
    private static final int HOLD = 5, TAP = 6, DRIFT = 7, NOISE = 8;

    public static void main(String[] args) {
        aPanelAndItsController();
        sensesBackgroundAndNoise();
        spotsTracksAndEvents();
        whatTheCodesMean();
        cellsRowByRow();
        fingersAtPlaces();
        sensedEverywhere();
        draws();
        minimumPeak();
        touchThreshold();
        valleyPercentage();
        palmSize();
        reach();
        hold();
        tapTime();
        drift();
        noiseThreshold();
        stepsInOrder();
        removedBeforeBegun();
        palmBeforeDown();
        trackWithASpot();
        trackWithoutASpot();
        newTrack();
        partsOfAText();
        numbersInRange();
        Checks.end();
    }

    private static void due(String call, long got, long want) {
        Checks.due(call, got, want);
    }

    private static void raise(FeltGlass x, int... cellsAndDeltas) {
        Checks.raise(x, cellsAndDeltas);
    }

    /** A panel in its initial state with these deltas after one frame. */
    private static FeltGlass framed(int wide, int high, int... cellsAndDeltas) {
        FeltGlass x = Checks.panel(wide, high);
        raise(x, cellsAndDeltas);
        x.frames(1);
        return x;
    }

    /** The same with one setting changed before the frame. */
    private static FeltGlass framedWith(int setting, int value, int wide, int high, int... cellsAndDeltas) {
        FeltGlass x = Checks.panel(wide, high);
        x.bound(setting, value);
        raise(x, cellsAndDeltas);
        x.frames(1);
        return x;
    }

    // ---- What it is, Description

    private static void aPanelAndItsController() {
        Checks.sentence("What it is", "A simulation of a capacitive touch panel and its controller.");
        FeltGlass x = Checks.panel(6, 5);
        Checks.reads(x, "0@4,4*120", 1);
        due("down in the second frame", x.frames(2), 1);
        due("X", x.track(0, 1), 32);
        due("Y", x.track(0, 2), 32);
        Checks.reads(x, "0-", 0);
        due("a tap after the hold", x.frames(2), 1);
        due("its sort", x.event(0, 0), 4);
    }

    private static void description() {
        Checks.sentence("Description", "The class computes what each cell of the panel senses of fingers, of a drifting"
            + " background and of noise; it detects noisy frames, segments touched cells into spots with a watershed"
            + " method, tracks the spots from frame to frame by an optimal assignment, distinguishes fingers from"
            + " palms, and reports events.");
    }

    private static void sensesBackgroundAndNoise() {
        description();
        FeltGlass x = Checks.panel(6, 5);
        Checks.reads(x, "0@4,4*120", 1);
        x.warm(7);
        x.frames(1);
        due("finger and background under the finger", x.cell(14, 2), 100 + 7 + 120);
        due("beside it", x.cell(13, 2), 100 + 7 + 72);
        due("diagonally", x.cell(7, 2), 100 + 7 + 24);
        due("background alone", x.cell(29, 2), 107);
        due("the baseline follows the background", x.cell(29, 1), 102);
        x.noise(0, 9);
        x.bound(NOISE, 0);
        x.seed(0);
        x.frames(1);
        due("the first draw is 0", x.cell(0, 2), 107 - 9);
        due("a noisy frame", x.about(4), 1);
        due("another drive", x.about(2), 1);
    }

    private static void spotsTracksAndEvents() {
        description();
        FeltGlass x = Checks.panel(8, 8);
        // A finger on the left, a palm of 3 by 4 equal cells on the right.
        Checks.reads(x, "0@2,2*100", 1);
        for (int cell : new int[] {37, 38, 39, 45, 46, 47, 53, 54, 55, 61, 62, 63}) raise(x, cell, 50);
        due("the finger goes down, the palm is silent", x.frames(2), 1);
        due("spots", x.about(5), 2);
        due("the finger", x.as(0, 0), 1);
        due("the palm", x.as(1, 1), 2);
        due("cells of the palm", x.spot(1, 1), 12);
        // Both hills of a close pair of fingers are spots, and the nearer one keeps the track.
        Checks.reads(x, "1@8,2*100", 2);
        due("age 1 makes no event", x.frames(1), 0);
        due("spots", x.about(5), 3);
        due("the track of the first finger", x.spot(0, 5), 1);
        due("the track of the second one", x.spot(1, 5), 3);
        due("the second one goes down", x.frames(1), 1);
        due("sort", x.event(0, 0), 1);
        due("track", x.event(0, 1), 3);
        due("frame", x.event(0, 2), 4);
    }

    // ---- ERRORS

    private static void whatTheCodesMean() {
        Checks.sentence("ERRORS", "The error codes are UNKNOWN (-10001), there is no such cell, finger, spot, track or"
            + " event; OUTSIDE (-10002), another argument is out of its range; STATE (-10003), the call is not possible"
            + " now, as the method says; FULL (-10004), a maximum would be exceeded.");
        FeltGlass x = framed(3, 3, 4, 50);
        x.frames(1);
        due("no such cell", x.cell(9, 0), UNKNOWN);
        due("no such cell", x.air(9, 0), UNKNOWN);
        due("no such finger", x.finger(5, 0), UNKNOWN);
        due("no such spot", x.spot(1, 0), UNKNOWN);
        due("no such track", x.track(1, 0), UNKNOWN);
        due("no such track", x.as(1, 0), UNKNOWN);
        due("no such event", x.event(1, 0), UNKNOWN);
        int[] outside = {x.cell(8, 6), x.air(8, 1000), x.finger(4, 4), x.spot(0, 6), x.track(0, 9), x.as(0, 2),
            x.event(0, 3), x.letter(127), x.glass(3, 9), x.warm(100), x.noise(3, 0), x.seed(-1), x.bound(9, 0),
            x.frames(21), x.about(9), x.count(6), x.events(5)};
        for (int i = 0; i < outside.length; i++) due("another argument, call " + i, outside[i], OUTSIDE);
        due("a page that is no text", x.fingers(), STATE);
        FeltGlass bare = new FeltGlass();
        int[] state = {bare.fault(), bare.fingers(), bare.warm(0), bare.noise(0, 0), bare.seed(0), bare.bound(0, 40),
            bare.settle(), bare.frames(1), bare.finger(0, 0), bare.about(0)};
        for (int i = 0; i < state.length; i++) due("without panel, call " + i, state[i], STATE);
        for (int length = 1; length <= 40; length++) due("letter", bare.letter(65), length);
        due("a letter too many", bare.letter(65), FULL);
    }

    // ---- THE PANEL

    private static void panel(String words) {
        Checks.sentence("THE PANEL", words);
    }

    private static void cellsRowByRow() {
        panel("The cells are numbered from 0, row by row; cell number W * y + x is at x, from 0 to W - 1, and y, from 0"
            + " to H - 1.");
        for (int[] size : new int[][] {{8, 3}, {3, 8}, {5, 4}}) {
            int cell = 0;
            for (int y = 0; y < size[1]; y++) {
                for (int x = 0; x < size[0]; x++) {
                    FeltGlass glass = framed(size[0], size[1], cell, 50);
                    due("peak", glass.spot(0, 0), cell);
                    due("X of cell " + cell, glass.spot(0, 3), 16 * x);
                    due("Y of cell " + cell, glass.spot(0, 4), 16 * y);
                    cell++;
                }
            }
        }
    }

    private static void fingersAtPlaces() {
        panel("There are five fingers, 0 to 4, each off (as at first) or on at a place (u, v), in half cells, with u"
            + " from 0 to 2 * W - 2 and v from 0 to 2 * H - 2, and with a power from 10 to 250.");
        for (int[] size : new int[][] {{3, 3}, {8, 3}, {3, 8}, {6, 5}}) {
            int right = 2 * size[0] - 2, bottom = 2 * size[1] - 2;
            int[][] places = {{0, 0, 10}, {right, bottom, 250}, {1, bottom - 1, 11}, {right - 1, 1, 249}, {2, 3, 100}};
            FeltGlass x = Checks.panel(size[0], size[1]);
            for (int finger = 0; finger <= 4; finger++) {
                int[] at = places[finger];
                due("off at first", x.finger(finger, 0), 0);
                Checks.reads(x, finger + "@" + at[0] + "," + at[1] + "*" + at[2], finger + 1);
                due("on", x.finger(finger, 0), 1);
                for (int what = 1; what <= 3; what++) due("finger " + finger, x.finger(finger, what), at[what - 1]);
            }
            Checks.refuses(x, "0@" + (right + 1) + ",0*10");
            Checks.refuses(x, "0@0," + (bottom + 1) + "*10");
            Checks.refuses(x, "0@0,0*9");
            Checks.refuses(x, "0@0,0*251");
        }
    }

    private static void sensedEverywhere() {
        panel("The cell at (x, y) senses of a finger that is on: power - 12 * ((2 * x - u) * (2 * x - u) + (2 * y - v) *"
            + " (2 * y - v)) if this is above 0, and otherwise 0.");
        for (int power : new int[] {10, 60, 121, 250}) {
            for (int u = 0; u <= 6; u++) {
                for (int v = 0; v <= 4; v++) {
                    FeltGlass glass = Checks.panel(4, 3);
                    Checks.reads(glass, "3@" + u + "," + v + "*" + power, 1);
                    for (int cell = 0; cell < 12; cell++) {
                        int x = cell % 4, y = cell / 4;
                        int sensed = power - 12 * ((2 * x - u) * (2 * x - u) + (2 * y - v) * (2 * y - v));
                        due("cell " + cell + " of " + power + " at " + u + ", " + v, glass.cell(cell, 5),
                            sensed > 0 ? sensed : 0);
                    }
                }
            }
        }
    }

    private static void draws() {
        panel("To draw a number below n, the seed becomes (1103515245 * seed + 12345) modulo 2147483648, computed"
            + " without overflow; the number is (seed / 65536) modulo n.");
        // The first numbers of this well-known sequence from the seed 1, below 32768.
        int[] numbers = {16838, 5758, 10113, 17515, 31051, 5627, 23010, 7419, 16212, 4086, 2749, 12767};
        for (int level : new int[] {1, 5, 7, 60}) {
            FeltGlass x = Checks.still(4, 3);
            x.noise(0, level);
            x.frames(1);
            for (int cell = 0; cell < 12; cell++) {
                due("raw of " + cell, x.cell(cell, 2), 100 + numbers[cell] % (2 * level + 1) - level);
            }
        }
    }

    private static void settings() {
        panel("There are nine settings, with these ranges and initial values: 0 minimum peak (20 to 200; 40), 1 touch"
            + " threshold (10 to 100; 20), 2 valley percentage (1 to 100; 80), 3 palm size (2 to 64; 10), 4 reach (1 to"
            + " 127; 24), 5 hold (0 to 9; 1), 6 tap time (1 to 30; 6), 7 drift (0 to 50; 2), 8 noise threshold (0 to"
            + " 200; 30).");
    }

    private static void minimumPeak() {
        settings();
        due("39 of 40", framed(3, 3, 4, 39).about(5), 0);
        due("40 of 40", framed(3, 3, 4, 40).about(5), 1);
        due("40 of 41", framedWith(MINIMUM_PEAK, 41, 3, 3, 4, 40).about(5), 0);
        due("39 of 39", framedWith(MINIMUM_PEAK, 39, 3, 3, 4, 39).about(5), 1);
    }

    private static void touchThreshold() {
        settings();
        due("19 of 20", framed(3, 3, 4, 50, 5, 19).spot(0, 1), 1);
        due("20 of 20", framed(3, 3, 4, 50, 5, 20).spot(0, 1), 2);
        due("20 of 21", framedWith(TOUCH, 21, 3, 3, 4, 50, 5, 20).spot(0, 1), 1);
        due("19 of 19", framedWith(TOUCH, 19, 3, 3, 4, 50, 5, 19).spot(0, 1), 2);
    }

    private static void valleyPercentage() {
        settings();
        due("79 of 80", framed(3, 3, 3, 100, 4, 79, 5, 100).about(5), 2);
        due("80 of 80", framed(3, 3, 3, 100, 4, 80, 5, 100).about(5), 1);
        due("80 of 81", framedWith(VALLEY, 81, 3, 3, 3, 100, 4, 80, 5, 100).about(5), 2);
        due("79 of 79", framedWith(VALLEY, 79, 3, 3, 3, 100, 4, 79, 5, 100).about(5), 1);
    }

    private static void palmSize() {
        settings();
        int[] nine = {0, 50, 1, 50, 2, 50, 4, 50, 5, 50, 6, 50, 8, 50, 9, 50, 10, 50};
        int[] ten = {0, 50, 1, 50, 2, 50, 4, 50, 5, 50, 6, 50, 8, 50, 9, 50, 10, 50, 11, 50};
        due("9 of 10", framed(4, 4, nine).track(0, 8), 0);
        due("10 of 10", framed(4, 4, ten).track(0, 8), 1);
        due("10 of 11", framedWith(PALM, 11, 4, 4, ten).track(0, 8), 0);
        due("9 of 9", framedWith(PALM, 9, 4, 4, nine).track(0, 8), 1);
    }

    /** From X 0 to 24, or to (16 * 70 + 32 * 90) / 160 = 25. */
    private static int trackAfterStep(FeltGlass x, int to) {
        raise(x, 3, 0, 4, to == 24 ? 80 : 70, 5, to == 24 ? 80 : 90);
        x.frames(1);
        due("X", x.spot(0, 3), to);
        return x.spot(0, 5);
    }

    private static void reach() {
        settings();
        due("24 of 24", trackAfterStep(framed(3, 3, 3, 50), 24), 1);
        due("25 of 24", trackAfterStep(framed(3, 3, 3, 50), 25), 2);
        due("24 of 23", trackAfterStep(framedWith(REACH, 23, 3, 3, 3, 50), 24), 2);
        due("25 of 25", trackAfterStep(framedWith(REACH, 25, 3, 3, 3, 50), 25), 1);
    }

    private static int tracksAfterMissing(FeltGlass x, int frames) {
        raise(x, 4, 0);
        x.frames(frames);
        return x.about(6);
    }

    private static void hold() {
        settings();
        due("1 missed of 1", tracksAfterMissing(framed(3, 3, 4, 50), 1), 1);
        due("2 missed of 1", tracksAfterMissing(framed(3, 3, 4, 50), 2), 0);
        due("2 missed of 2", tracksAfterMissing(framedWith(HOLD, 2, 3, 3, 4, 50), 2), 1);
        due("1 missed of 0", tracksAfterMissing(framedWith(HOLD, 0, 3, 3, 4, 50), 1), 0);
    }

    private static int sortAfter(FeltGlass x, int age) {
        x.frames(age - 1);
        due("age", x.track(0, 5), age);
        raise(x, 4, 0);
        due("an event", x.frames(2), 1);
        return x.event(0, 0);
    }

    private static void tapTime() {
        settings();
        due("age 6 of 6", sortAfter(framed(3, 3, 4, 50), 6), 4);
        due("age 7 of 6", sortAfter(framed(3, 3, 4, 50), 7), 2);
        due("age 7 of 7", sortAfter(framedWith(TAP, 7, 3, 3, 4, 50), 7), 4);
        due("age 6 of 5", sortAfter(framedWith(TAP, 5, 3, 3, 4, 50), 6), 2);
    }

    private static void drift() {
        settings();
        due("2 at first", framed(3, 3, 4, 15).cell(4, 1), 102);
        due("3", framedWith(DRIFT, 3, 3, 3, 4, 15).cell(4, 1), 103);
        due("0", framedWith(DRIFT, 0, 3, 3, 4, 15).cell(4, 1), 100);
    }

    private static void noiseThreshold() {
        settings();
        due("30 of 30", framed(3, 3, 4, -30).about(4), 0);
        due("31 of 30", framed(3, 3, 4, -31).about(4), 1);
        due("31 of 31", framedWith(NOISE, 31, 3, 3, 4, -31).about(4), 0);
        due("30 of 29", framedWith(NOISE, 29, 3, 3, 4, -30).about(4), 1);
    }

    // ---- A FRAME

    private static void order() {
        Checks.sentence("A FRAME", "In a frame the following steps are carried out in this order.");
    }

    private static void stepsInOrder() {
        order();
        // The baseline moves after all that looks at the deltas: 41 is a spot, at 20 above the next cell's threshold.
        FeltGlass x = framed(8, 3, 8, 41, 9, 20, 15, 19);
        due("delta before the baseline moves", x.cell(15, 3), 19);
        due("baseline", x.cell(15, 1), 102);
        due("spot", x.spot(0, 1), 2);
        due("its track in the same frame", x.spot(0, 5), 1);
        due("no drift at a spot of this frame", x.cell(8, 1), 100);
        due("no drift beside a spot of this frame", x.cell(10, 1), 100);
        // The drive changes after the sensing.
        x = Checks.panel(3, 3);
        x.noise(1, 60);
        raise(x, 0, -31);
        x.frames(1);
        due("noisy by the spread of the same frame", x.about(4), 1);
        due("the next drive", x.about(2), 1);
        due("it was not used yet", x.about(7), 1);
    }

    private static void removedBeforeBegun() {
        order();
        FeltGlass x = Checks.still(5, 5);
        x.bound(HOLD, 0);
        x.bound(REACH, 1);
        raise(x, 0, 50, 2, 50, 4, 50, 10, 50, 12, 50, 14, 50);
        x.frames(1);
        raise(x, 0, 0, 2, 0, 4, 0, 10, 0, 12, 0, 14, 0);
        raise(x, 5, 50, 7, 50, 9, 50, 20, 50, 22, 50, 24, 50);
        x.frames(1);
        due("six tracks", x.about(6), 6);
        for (int track = 0; track < 6; track++) due("all of them new", x.track(track, 0), 7 + track);
    }

    private static void palmBeforeDown() {
        order();
        FeltGlass x = Checks.still(3, 3);
        x.bound(PALM, 2);
        raise(x, 4, 50);
        x.frames(1);
        raise(x, 5, 30);
        due("a palm at age 2", x.frames(1), 0);
        due("palm", x.track(0, 8), 1);
    }

    private static void trackWithASpot() {
        Checks.sentence("A FRAME 6", "A track with a spot: its path length increases by the absolute differences of X"
            + " and of Y; it gets the X, Y, size and mass of the spot; its age increases by 1; its number of missed"
            + " frames becomes 0.");
        FeltGlass x = Checks.still(6, 6);
        raise(x, 7, 50);
        x.frames(1);
        raise(x, 7, 0);
        x.frames(1);
        int[] missed = {1, 16, 16, 1, 50, 1, 1, 0, 0};
        for (int what = 0; what <= 8; what++) due("missed, " + what, x.track(0, what), missed[what]);
        // Cells (2, 2) and (2, 3) with 60 and 20: X 32, Y (32 * 60 + 48 * 20) / 80 = 36.
        raise(x, 14, 60, 20, 20);
        x.frames(1);
        int[] found = {1, 32, 36, 2, 80, 2, 0, 36, 0};
        for (int what = 0; what <= 8; what++) due("found, " + what, x.track(0, what), found[what]);
        raise(x, 14, 0, 20, 0, 7, 55);
        x.frames(1);
        int[] back = {1, 16, 16, 1, 55, 3, 0, 72, 0};
        for (int what = 0; what <= 8; what++) due("back, " + what, x.track(0, what), back[what]);
    }

    private static void trackWithoutASpot() {
        Checks.sentence("A FRAME 6", "A track without a spot: its number of missed frames increases by 1; if this is"
            + " above the hold, the track is removed, and if it is not a palm and its age is above 1, there is an event"
            + " 4 (tap) if its age is at most the tap time and its path length is at most 16, and otherwise an event 2"
            + " (up).");
        FeltGlass x = framed(3, 3, 4, 50);
        x.frames(1);
        raise(x, 4, 0);
        due("held", x.frames(1), 0);
        int[] held = {1, 16, 16, 1, 50, 2, 1, 0, 0};
        for (int what = 0; what <= 8; what++) due("held, " + what, x.track(0, what), held[what]);
        due("removed", x.frames(1), 1);
        due("no track", x.about(6), 0);
        due("tap", x.event(0, 0), 4);
        due("its track", x.event(0, 1), 1);
        due("its frame", x.event(0, 2), 4);
        raise(x, 4, 50);
        x.frames(7);
        raise(x, 4, 0);
        due("removed after a longer time", x.frames(2), 1);
        due("up", x.event(0, 0), 2);
        due("its track", x.event(0, 1), 2);
    }

    private static void newTrack() {
        Checks.sentence("A FRAME 7", "Each spot without a track, in order, gets a new track if there are fewer than six"
            + " tracks: with the next identifier (identifiers begin with 1, and none is used twice, also on later"
            + " panels), with X, Y, size and mass of the spot, age 1, 0 missed frames and the path length 0; it is a"
            + " palm if the size is at least the palm size.");
        FeltGlass x = Checks.still(8, 3);
        x.bound(PALM, 3);
        // Cells 8 and 9 with 60 and 20: X (16 * 20) / 80 = 4; cells 12 to 14 with 50 each: X 16 * 5.
        raise(x, 8, 60, 9, 20, 12, 50, 13, 50, 14, 50);
        x.frames(1);
        int[] first = {1, 4, 16, 2, 80, 1, 0, 0, 0}, second = {2, 80, 16, 3, 150, 1, 0, 0, 1};
        for (int what = 0; what <= 8; what++) {
            due("the first, " + what, x.track(0, what), first[what]);
            due("the second, " + what, x.track(1, what), second[what]);
        }
        x.glass(3, 3);
        raise(x, 4, 50);
        x.frames(1);
        due("the next identifier on the next panel", x.track(0, 0), 3);
    }

    // ---- THE TEXT OF FINGERS

    private static void partsOfAText() {
        Checks.sentence("THE TEXT OF FINGERS", "A part is the digit of a finger, 0 to 4, followed by a minus sign if"
            + " the finger is off, or by @, u, a comma, v, an asterisk and the power if it is on.");
        FeltGlass x = Checks.panel(8, 8);
        Checks.reads(x, "0@1,2*30;1@4,5*60;2@7,8*90", 3);
        for (int finger = 0; finger <= 2; finger++) {
            due("u of " + finger, x.finger(finger, 1), 3 * finger + 1);
            due("v of " + finger, x.finger(finger, 2), 3 * finger + 2);
            due("power of " + finger, x.finger(finger, 3), 30 * finger + 30);
        }
        Checks.reads(x, "1-;4@14,0*250", 3);
        due("1 is off", x.finger(1, 0), 0);
        due("4 is on", x.finger(4, 0), 1);
        for (String text : new String[] {"0@1;2*30", "0@1.2*30", "0@1,2+30", "0@1,2", "0@1", "01,2*30", "0=1,2*30",
            "0@1,2*30-", "@1,2*30", "-", "-0", "0+", "0@*,", "0 -", "0@2*1,30"}) Checks.refuses(x, text);
    }

    private static void numbersInRange() {
        Checks.sentence("THE TEXT OF FINGERS", "Numbers have no leading zeros (0 itself is allowed for u and v), and are"
            + " in the ranges named above.");
        FeltGlass x = Checks.panel(4, 3);
        for (String text : new String[] {"0@0,0*10", "0@6,4*250", "0@0,4*99", "0@6,0*100"}) Checks.reads(x, text, 1);
        for (String text : new String[] {"0@00,0*10", "0@0,00*10", "0@01,0*10", "0@0,01*10", "0@0,0*010", "0@0,0*0",
            "0@7,0*10", "0@0,5*10", "0@0,0*9", "0@0,0*251", "0@10,0*10", "0@0,10*10", "0@0,0*1000"}) {
            Checks.refuses(x, text);
        }
    }
}
