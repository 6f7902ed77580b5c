/** The steps of a frame, with deltas set cell by cell through the backgrounds and answers worked out by hand. */
public final class FrameTest {
    private static final int NONE = Checks.NONE, UNKNOWN = Checks.UNKNOWN;
    private static final int MINIMUM_PEAK = 0, TOUCH = 1, VALLEY = 2, PALM = 3, REACH = 4, HOLD = 5, TAP = 6;
    private static final int DRIFT = 7, NOISE = 8;

    public static void main(String[] args) {
        touchThreshold();
        draws();
        spreadAndThreshold();
        quietCells();
        noisyFrame();
        drivesInTurn();
        plateau();
        valleyPercentage();
        greatestPassFirst();
        lowestPairOfEqualPasses();
        lowestOtherPeakOfEqualPasses();
        peakOfMergedHill();
        minimumPeak();
        sixSpots();
        equalMasses();
        sixteenHills();
        positionTruncated();
        reach();
        mostPairs();
        smallestSum();
        lexicographicPairs();
        oneSpotForTwo();
        down();
        palms();
        palmForEver();
        hold();
        taps();
        tapPath();
        shortTracks();
        fullTracks();
        drift();
        driftAroundSpots();
        Checks.end();
    }

    private static void due(String call, long got, long want) {
        Checks.due(call, got, want);
    }

    private static FeltGlass still(int wide, int high) {
        return Checks.still(wide, high);
    }

    private static void raise(FeltGlass x, int... cellsAndDeltas) {
        Checks.raise(x, cellsAndDeltas);
    }

    private static void touchThreshold() {
        FeltGlass x = still(5, 3);
        raise(x, 5, 19, 6, 50, 7, 20);
        x.frames(1);
        due("below the threshold", x.cell(5, 4), NONE);
        due("at the threshold", x.cell(7, 4), 0);
        due("size", x.spot(0, 1), 2);
        x.bound(TOUCH, 21);
        x.frames(1);
        due("size above", x.spot(0, 1), 1);
        x.bound(TOUCH, 10);
        x.frames(1);
        due("size below", x.spot(0, 1), 3);
    }

    private static void draws() {
        FeltGlass x = still(3, 3);
        x.frames(1);
        due("no noise, no draw", x.about(7), 1);
        x.noise(0, 1);
        x.frames(1);
        // 1103515245 + 12345 = 1103527590; divided by 65536 it is 16838, and 2 modulo 3.
        due("raw", x.cell(0, 2), 101);
        due("delta", x.cell(0, 3), 1);
        x.seed(1);
        x.noise(0, 60);
        x.noise(1, 5);
        x.frames(1);
        due("raw with 60", x.cell(0, 2), 100 + 16838 % 121 - 60);
        long seed = 1;
        for (int i = 0; i < 9; i++) seed = (1103515245L * seed + 12345) & 0x7fffffff;
        due("one draw for each cell", x.about(7), seed);
    }

    private static void spreadAndThreshold() {
        FeltGlass x = still(3, 3);
        raise(x, 0, -11, 8, 19);
        x.bound(NOISE, 30);
        x.frames(1);
        due("spread", x.about(3), 30);
        due("not above the threshold", x.about(4), 0);
        x.bound(NOISE, 29);
        x.frames(1);
        due("above the threshold", x.about(4), 1);
        x.settle();
        x.frames(1);
        due("no spread", x.about(3), 0);
        due("not noisy any more", x.about(4), 0);
        due("noisy frames", x.count(2), 1);
    }

    private static void quietCells() {
        FeltGlass x = still(5, 3);
        raise(x, 0, 50, 1, -90, 6, 15, 2, 7, 14, -3);
        x.frames(1);
        due("neighbours of the touched cell do not count", x.about(3), 10);
        raise(x, 7, 20);
        x.frames(1);
        due("neighbours of both", x.about(3), 3);
        raise(x, 8, 20);
        x.frames(1);
        due("no quiet cells", x.about(3), 0);
        x.bound(NOISE, 0);
        x.frames(1);
        due("0 is not above 0", x.about(4), 0);
    }

    private static void noisyFrame() {
        FeltGlass x = Checks.panel(5, 5);
        raise(x, 0, 50);
        x.frames(2);
        raise(x, 24, -31);
        due("no events", x.frames(1), 0);
        due("noisy", x.about(4), 1);
        due("no spots", x.about(5), 0);
        due("no spot of the cell", x.cell(0, 4), NONE);
        due("spot", x.spot(0, 0), UNKNOWN);
        due("tracks stay", x.about(6), 1);
        due("age stays", x.track(0, 5), 2);
        due("nothing missed", x.track(0, 6), 0);
        due("raw", x.cell(24, 2), 69);
        due("delta", x.cell(24, 3), -31);
        due("baseline stays", x.cell(24, 1), 100);
        due("frames", x.about(8), 3);
        raise(x, 24, 0);
        x.frames(1);
        due("track goes on", x.spot(0, 5), 1);
        due("age", x.track(0, 5), 3);
    }

    private static void drivesInTurn() {
        FeltGlass x = Checks.panel(5, 5);
        raise(x, 24, -31);
        int[] drives = {1, 2, 0, 1};
        for (int drive : drives) {
            x.frames(1);
            due("drive", x.about(2), drive);
        }
        x.noise(1, 1);
        x.noise(0, 60);
        x.frames(1);
        due("noise of the active drive", Math.abs(x.cell(0, 3)) <= 1 ? 1 : 0, 1);
        due("seed has moved", x.about(7) == 1 ? 1 : 0, 0);
    }

    private static void plateau() {
        FeltGlass x = still(8, 3);
        // 12 goes to 11, and so on down to 9, although all are equal.
        raise(x, 9, 50, 10, 50, 11, 50, 12, 50);
        x.frames(1);
        due("one spot", x.about(5), 1);
        due("lowest peak", x.spot(0, 0), 9);
        due("size", x.spot(0, 1), 4);
        // The ends are a little higher; 11 lies beside 12, 10 beside 9.
        raise(x, 9, 51, 12, 51);
        x.frames(1);
        due("two spots", x.about(5), 2);
        due("10 goes to 9", x.cell(10, 4), 0);
        due("11 goes to 12", x.cell(11, 4), 1);
        // 10 lies between two equal peaks and goes to the lower one.
        raise(x, 9, 60, 10, 20, 11, 60, 12, 0);
        x.frames(1);
        due("10 between equal peaks", x.cell(10, 4), 0);
        due("sizes", 10 * x.spot(0, 1) + x.spot(1, 1), 21);
    }

    private static void valleyPercentage() {
        FeltGlass x = still(8, 3);
        raise(x, 9, 100, 10, 50, 11, 120);
        x.bound(VALLEY, 51);
        x.frames(1);
        due("two hills", x.about(5), 2);
        x.bound(VALLEY, 50);
        x.frames(1);
        due("one hill", x.about(5), 1);
        due("size", x.spot(0, 1), 3);
        raise(x, 10, 19);
        x.bound(VALLEY, 1);
        x.frames(1);
        due("no pass over a cell that is not touched", x.about(5), 2);
    }

    private static void greatestPassFirst() {
        FeltGlass x = still(8, 3);
        x.bound(VALLEY, 80);
        // The middle hill, 11, could go either way; the pass on its right is the greater one.
        raise(x, 9, 100, 10, 58, 11, 70, 12, 60, 13, 100);
        x.frames(1);
        due("two spots", x.about(5), 2);
        due("size on the left", x.spot(0, 1), 2);
        due("size on the right", x.spot(1, 1), 3);
        due("11 is on the right", x.cell(11, 4), 1);
        raise(x, 10, 60, 12, 58);
        x.frames(1);
        due("11 is on the left", x.cell(11, 4), 0);
    }

    private static void lowestPairOfEqualPasses() {
        FeltGlass x = still(8, 3);
        x.bound(VALLEY, 80);
        raise(x, 9, 100, 10, 58, 11, 70, 12, 58, 13, 100);
        x.frames(1);
        due("two spots", x.about(5), 2);
        due("the lower pair is merged", x.cell(11, 4), 0);
        due("13 stays alone with 12", x.spot(1, 1), 2);
    }

    private static void lowestOtherPeakOfEqualPasses() {
        FeltGlass x = still(5, 5);
        x.bound(VALLEY, 80);
        // The low hill at 2 has equal passes to 10 and to 14; it goes to the lower of them.
        raise(x, 2, 70, 6, 58, 10, 100, 8, 58, 14, 100);
        x.frames(1);
        due("two spots", x.about(5), 2);
        due("first peak", x.spot(0, 0), 10);
        due("second peak", x.spot(1, 0), 14);
        due("2 belongs to 10", x.cell(2, 4), 0);
    }

    private static void peakOfMergedHill() {
        FeltGlass x = still(8, 3);
        x.bound(VALLEY, 1);
        raise(x, 9, 60, 10, 30, 11, 61);
        x.frames(1);
        due("greater peak", x.spot(0, 0), 11);
        raise(x, 9, 61);
        x.frames(1);
        due("lower of equal peaks", x.spot(0, 0), 9);
        raise(x, 9, 62);
        x.frames(1);
        due("greater peak on the left", x.spot(0, 0), 9);
    }

    private static void minimumPeak() {
        FeltGlass x = still(8, 3);
        raise(x, 8, 39, 10, 40, 12, 41);
        x.frames(1);
        due("two spots", x.about(5), 2);
        due("at the minimum", x.spot(0, 0), 10);
        due("no spot for a low hill", x.cell(8, 4), NONE);
        x.bound(MINIMUM_PEAK, 42);
        x.frames(1);
        due("no spots", x.about(5), 0);
    }

    /** Ten single cells that are not neighbours of one another. */
    private static final int[] APART = {0, 2, 4, 6, 16, 18, 20, 22, 32, 34};

    private static void sixSpots() {
        FeltGlass x = still(8, 8);
        int[] deltas = {50, 60, 51, 61, 52, 62, 53, 63, 54, 64};
        for (int i = 0; i < 10; i++) raise(x, APART[i], deltas[i]);
        x.frames(1);
        due("six spots", x.about(5), 6);
        int[] peaks = {2, 6, 18, 22, 32, 34};
        for (int i = 0; i < 6; i++) due("peak", x.spot(i, 0), peaks[i]);
        due("no spot for a light hill", x.cell(20, 4), NONE);
        due("seventh spot", x.spot(6, 0), UNKNOWN);
        due("six tracks", x.about(6), 6);
        // The mass decides, not the peak: 16 has a second cell now.
        raise(x, 8, 30);
        x.frames(1);
        due("heavier by a second cell", x.spot(2, 0), 16);
        due("mass", x.spot(2, 2), 82);
        due("the lightest one is gone", x.cell(32, 4), NONE);
    }

    private static void equalMasses() {
        FeltGlass x = still(8, 8);
        for (int cell : APART) raise(x, cell, 50);
        raise(x, 34, 51);
        x.frames(1);
        int[] peaks = {0, 2, 4, 6, 16, 34};
        for (int i = 0; i < 6; i++) due("peak of equal masses", x.spot(i, 0), peaks[i]);
    }

    /** As many hills as a panel can have, apart and then all merged. */
    private static void sixteenHills() {
        FeltGlass x = still(8, 8);
        for (int y = 0; y < 8; y += 2) {
            for (int column = 0; column < 8; column += 2) raise(x, 8 * y + column, 60);
        }
        x.frames(1);
        int[] peaks = {0, 2, 4, 6, 16, 18};
        for (int i = 0; i < 6; i++) due("peak of sixteen", x.spot(i, 0), peaks[i]);
        due("six tracks", x.about(6), 6);
        for (int cell = 0; cell < 64; cell++) {
            if (cell / 8 % 2 == 1 || cell % 2 == 1) raise(x, cell, 30);
        }
        x.frames(1);
        due("all touched, six spots", x.about(5), 6);
        x.bound(VALLEY, 51);
        x.frames(1);
        due("not merged", x.about(5), 6);
        raise(x, 54, 61);
        x.bound(VALLEY, 50);
        x.frames(1);
        due("all merged", x.about(5), 1);
        due("peak of all", x.spot(0, 0), 54);
        due("size of all", x.spot(0, 1), 64);
        due("mass of all", x.spot(0, 2), 16 * 60 + 48 * 30 + 1);
        due("no quiet cells", x.about(3), 0);
    }

    private static void positionTruncated() {
        FeltGlass x = still(5, 5);
        raise(x, 6, 50, 7, 41, 11, 20);
        x.frames(1);
        due("mass", x.spot(0, 2), 111);
        due("X", x.spot(0, 3), 16 * (50 + 2 * 41 + 20) / 111);
        due("Y", x.spot(0, 4), 16 * (50 + 41 + 2 * 20) / 111);
        due("X by hand", x.spot(0, 3), 21);
        due("Y by hand", x.spot(0, 4), 18);
    }

    private static void reach() {
        FeltGlass x = still(8, 8);
        raise(x, 9, 50);
        x.frames(1);
        x.bound(REACH, 32);
        raise(x, 9, 0, 27, 50);
        x.frames(1);
        due("X and Y at the reach", x.spot(0, 5), 1);
        x.bound(REACH, 31);
        raise(x, 27, 0, 29, 50);
        x.frames(1);
        due("X beyond the reach", x.spot(0, 5), 2);
        raise(x, 29, 0, 45, 50);
        x.frames(1);
        due("Y beyond the reach", x.spot(0, 5), 3);
        x.bound(REACH, 32);
        raise(x, 45, 0, 47, 50);
        x.frames(1);
        due("in reach again", x.spot(0, 5), 3);
    }

    private static void mostPairs() {
        FeltGlass x = still(8, 3);
        x.bound(REACH, 48);
        raise(x, 9, 50, 12, 50);
        x.frames(1);
        raise(x, 9, 0, 12, 0, 11, 50, 15, 50);
        x.frames(1);
        // Track 2 is nearer to the first spot, but then track 1 would have none.
        due("first spot", x.spot(0, 5), 1);
        due("second spot", x.spot(1, 5), 2);
        due("tracks", x.about(6), 2);
    }

    private static void smallestSum() {
        FeltGlass x = still(8, 8);
        x.bound(REACH, 127);
        // From (0, 0) and (2, 7) to (5, 0) and (5, 7).
        raise(x, 0, 50, 58, 50);
        x.frames(1);
        raise(x, 0, 0, 58, 0, 5, 50, 61, 50);
        x.frames(1);
        due("upper spot", x.spot(0, 5), 1);
        due("lower spot", x.spot(1, 5), 2);
        // From (5, 0) and (5, 7) to (0, 6) and (7, 7).
        raise(x, 5, 0, 61, 0, 48, 50, 63, 50);
        x.frames(1);
        // track 1 to (0, 6): 80^2 + 96^2 = 15616, track 2 to (7, 7): 32^2 = 1024: 16640 in all;
        // track 1 to (7, 7): 32^2 + 112^2 = 13568, track 2 to (0, 6): 80^2 + 16^2 = 6656: 20224 in all.
        due("left spot", x.spot(0, 5), 1);
        due("right spot", x.spot(1, 5), 2);
        // From (0, 6) and (7, 7) to (6, 3) and (0, 5): track 1 takes the second spot.
        raise(x, 48, 0, 63, 0, 30, 50, 40, 50);
        x.frames(1);
        due("spot near track 2", x.spot(0, 5), 2);
        due("spot near track 1", x.spot(1, 5), 1);
    }

    private static void lexicographicPairs() {
        FeltGlass x = still(8, 5);
        x.bound(REACH, 32);
        raise(x, 3, 50, 35, 50);
        x.frames(1);
        // Both ways are equally long: (3, 0) and (3, 4) to (1, 2) and (5, 2).
        raise(x, 3, 0, 35, 0, 17, 50, 21, 50);
        x.frames(1);
        due("lower track takes lower spot", x.spot(0, 5), 1);
        due("higher track takes higher spot", x.spot(1, 5), 2);
    }

    private static void oneSpotForTwo() {
        FeltGlass x = still(8, 5);
        x.bound(REACH, 32);
        raise(x, 3, 50, 35, 50);
        x.frames(1);
        raise(x, 3, 0, 35, 0, 19, 50);
        x.frames(1);
        due("lower track takes the only spot", x.spot(0, 5), 1);
        due("higher track misses it", x.track(1, 6), 1);
    }

    private static void down() {
        FeltGlass x = still(3, 3);
        raise(x, 4, 50);
        due("first frame", x.frames(1), 0);
        due("second frame", x.frames(1), 1);
        due("third frame", x.frames(1), 0);
        due("sort", x.event(0, 0), 1);
        due("frame", x.event(0, 2), 2);
        due("age", x.track(0, 5), 3);
    }

    private static void palms() {
        FeltGlass x = still(5, 5);
        x.bound(PALM, 2);
        raise(x, 6, 50, 7, 30);
        due("a palm from the first frame on", x.frames(5), 0);
        due("palm", x.track(0, 8), 1);
        raise(x, 6, 0, 7, 0);
        due("a palm goes silently", x.frames(5), 0);
        due("gone", x.about(6), 0);
        raise(x, 18, 50);
        x.frames(1);
        raise(x, 17, 30);
        due("a palm at age 2", x.frames(1), 0);
        due("palm at age 2", x.track(0, 8), 1);
        x.glass(5, 5);
        x.bound(PALM, 2);
        raise(x, 18, 50);
        due("down", x.frames(2), 1);
        raise(x, 17, 30);
        due("called off", x.frames(1), 1);
        due("sort", x.event(0, 0), 3);
        due("track", x.event(0, 1), 3);
        due("frame", x.event(0, 2), 3);
    }

    private static void palmForEver() {
        FeltGlass x = still(5, 5);
        x.bound(PALM, 3);
        raise(x, 12, 50, 13, 30);
        x.frames(2);
        due("no palm below the size", x.track(0, 8), 0);
        raise(x, 11, 30);
        x.frames(1);
        due("palm", x.track(0, 8), 1);
        raise(x, 11, 0);
        due("small again", x.frames(1), 0);
        due("still a palm", x.track(0, 8), 1);
        raise(x, 11, 30);
        due("not called off twice", x.frames(1), 0);
        raise(x, 11, 0, 12, 0, 13, 0);
        due("no up", x.frames(3), 0);
    }

    private static void hold() {
        FeltGlass x = still(3, 3);
        x.bound(HOLD, 3);
        raise(x, 4, 50);
        x.frames(2);
        raise(x, 4, 0);
        due("held for three frames", x.frames(3), 0);
        due("missed", x.track(0, 6), 3);
        raise(x, 4, 50);
        x.frames(1);
        due("found again", x.track(0, 6), 0);
        due("age", x.track(0, 5), 3);
        x.bound(HOLD, 0);
        raise(x, 4, 0);
        due("removed at once", x.frames(1), 1);
        due("no track", x.about(6), 0);
        due("spot of none", x.track(0, 0), UNKNOWN);
    }

    private static void taps() {
        for (int age = 2; age <= 8; age++) {
            FeltGlass x = still(3, 3);
            x.bound(HOLD, 0);
            raise(x, 4, 50);
            x.frames(age);
            raise(x, 4, 0);
            due("one event", x.frames(1), 1);
            due("sort at age " + age, x.event(0, 0), age <= 6 ? 4 : 2);
        }
        FeltGlass x = still(3, 3);
        x.bound(TAP, 1);
        raise(x, 4, 50);
        x.frames(2);
        raise(x, 4, 0);
        x.frames(2);
        due("no tap beyond the tap time", x.event(0, 0), 2);
    }

    private static void tapPath() {
        for (int by = 16; by <= 17; by++) {
            FeltGlass x = still(6, 3);
            x.bound(TOUCH, 10);
            x.bound(HOLD, 0);
            raise(x, 7, 50);
            x.frames(1);
            // X goes from 16 to 32, or with the second cell to (32 * 150 + 48 * 10) / 160 = 33.
            raise(x, 7, 0, 8, 150, 9, by == 16 ? 0 : 10);
            x.frames(1);
            due("path", x.track(0, 7), by);
            raise(x, 8, 0, 9, 0);
            x.frames(1);
            due("sort after a path of " + by, x.event(0, 0), by == 16 ? 4 : 2);
        }
        FeltGlass x = still(6, 6);
        raise(x, 7, 50);
        x.frames(1);
        raise(x, 7, 0, 14, 50);
        x.frames(1);
        raise(x, 14, 0, 7, 50);
        x.frames(1);
        due("path there and back", x.track(0, 7), 64);
    }

    private static void shortTracks() {
        FeltGlass x = still(3, 3);
        x.bound(HOLD, 0);
        raise(x, 4, 50);
        x.frames(1);
        raise(x, 4, 0);
        due("no event for age 1", x.frames(1), 0);
        due("no track", x.about(6), 0);
        due("tracks begun", x.count(3), 1);
    }

    private static void fullTracks() {
        FeltGlass x = still(8, 8);
        x.bound(REACH, 1);
        x.bound(HOLD, 2);
        for (int i = 0; i < 5; i++) raise(x, APART[i], 50);
        x.frames(1);
        for (int i = 0; i < 5; i++) raise(x, APART[i], 0);
        raise(x, 48, 50, 50, 50, 52, 50);
        x.frames(1);
        due("six tracks", x.about(6), 6);
        due("first new spot", x.spot(0, 5), 6);
        due("second new spot", x.spot(1, 5), NONE);
        x.frames(1);
        due("still full", x.spot(2, 5), NONE);
        x.frames(1);
        due("room again in the same frame", x.spot(1, 5), 7);
        due("in order", x.spot(2, 5), 8);
        due("three tracks", x.about(6), 3);
        due("oldest first", x.track(0, 0), 6);
        due("newest last", x.track(2, 0), 8);
        due("tracks begun", x.count(3), 8);
    }

    private static void drift() {
        FeltGlass x = Checks.panel(3, 3);
        raise(x, 0, 5, 1, -5, 2, 1, 3, -2);
        x.frames(1);
        due("up by the drift", x.cell(0, 1), 102);
        due("down by the drift", x.cell(1, 1), 98);
        due("up to the raw value", x.cell(2, 1), 101);
        due("down to the raw value", x.cell(3, 1), 98);
        due("delta before the move", x.cell(0, 3), 5);
        x.frames(1);
        due("delta of the second frame", x.cell(0, 3), 3);
        due("up again", x.cell(0, 1), 104);
        x.frames(1);
        due("at the raw value", x.cell(0, 1), 105);
        x.bound(DRIFT, 0);
        raise(x, 0, 15);
        x.frames(1);
        due("no drift", x.cell(0, 1), 105);
        x.bound(DRIFT, 50);
        x.frames(1);
        due("great drift", x.cell(0, 1), 115);
    }

    private static void driftAroundSpots() {
        FeltGlass x = Checks.panel(8, 3);
        raise(x, 8, 50, 9, 5, 10, 5, 13, 30);
        x.frames(1);
        due("in the spot", x.cell(8, 1), 100);
        due("beside the spot", x.cell(9, 1), 100);
        due("further away", x.cell(10, 1), 102);
        due("a touched cell in no spot", x.cell(13, 1), 102);
    }
}
