import java.math.BigInteger;

/** The boundary cases that THE PANEL and steps 1 to 4 of A FRAME name, a test for each sentence. */
public final class PanelEdgesTest {
    private static final int NONE = Checks.NONE, UNKNOWN = Checks.UNKNOWN, STATE = Checks.STATE;
    private static final int TOP = Integer.MAX_VALUE;
    private static final int MINIMUM_PEAK = 0, TOUCH = 1, VALLEY = 2, HOLD = 5, DRIFT = 7, NOISE = 8;
    private static final int[][] SIZES = {{3, 3}, {3, 8}, {8, 3}, {8, 8}, {5, 4}};

    public static void main(String[] args) {
        noPanelAtFirst();
        sides();
        cellsRowByRow();
        neighboursStayFromDrift();
        neighboursAreNotQuiet();
        neighboursFormHills();
        fingersOffAtFirst();
        sensedAboveZero();
        sensedOfAllFingers();
        backgroundsAtFirst();
        drivesAtFirst();
        seedAtFirst();
        draws();
        settingsAtFirst();
        rawOfEachCellInOrder();
        noDrawWithoutNoise();
        noiseFromMinusNToN();
        greatestAndLeastRaw();
        touchedAtTheThreshold();
        spreadOfQuietCells();
        noQuietCells();
        spreadAboveTheThreshold();
        nextDrive();
        noisyFrameHasNoSpots();
        furtherStepsOmitted();
        greatestNeighbour();
        lowestOfSeveral();
        goesOnToThePeak();
        noTouchedCell();
        greatestPass();
        noPass();
        passInAllDirections();
        passOfAMergedHill();
        mergedAtThePercentage();
        leastAndGreatestPercentage();
        smallerPeakCounts();
        greatestPassFirst();
        lowestLowerPeak();
        lowestOtherPeak();
        mergedHillIsKnownByItsPeak();
        greaterPassThatCannotBeMerged();
        mergedAsLongAsPossible();
        peakOfTheMergedHill();
        atTheMinimumPeak();
        sizeAndMass();
        sixSpotsOfMore();
        equalMasses();
        numberedByPeaks();
        positionsTruncated();
        Checks.end();
    }

    private static void panel(String words) {
        Checks.sentence("THE PANEL", words);
    }

    private static void step(int number, String words) {
        Checks.sentence("A FRAME " + number, words);
    }

    private static void due(String call, long got, long want) {
        Checks.due(call, got, want);
    }

    private static FeltGlass still(int wide, int high) {
        return Checks.still(wide, high);
    }

    private static void raise(FeltGlass x, int... cellsAndDeltas) {
        Checks.raise(x, cellsAndDeltas);
    }

    /** A still panel with this percentage and these deltas after one frame. */
    private static FeltGlass hills(int wide, int high, int percentage, int... cellsAndDeltas) {
        FeltGlass x = still(wide, high);
        x.bound(VALLEY, percentage);
        raise(x, cellsAndDeltas);
        x.frames(1);
        return x;
    }

    // ---- THE PANEL

    private static void noPanelAtFirst() {
        panel("There is no panel at first.");
        FeltGlass x = new FeltGlass();
        due("about(0)", x.about(0), STATE);
        due("frames(1)", x.frames(1), STATE);
        due("cell(0, 0)", x.cell(0, 0), UNKNOWN);
        due("count(5)", x.count(5), 0);
    }

    private static void sides() {
        panel("A panel is W cells wide and H cells high, 3 to 8 each.");
        for (int wide = 1; wide <= 10; wide++) {
            for (int high = 1; high <= 10; high++) {
                boolean right = wide >= 3 && wide <= 8 && high >= 3 && high <= 8;
                FeltGlass x = new FeltGlass();
                due("glass(" + wide + ", " + high + ")", x.glass(wide, high), right ? wide * high : Checks.OUTSIDE);
            }
        }
    }

    private static void cellsRowByRow() {
        panel("cell number W * y + x is at x, from 0 to W - 1, and y, from 0 to H - 1");
        for (int[] size : SIZES) {
            for (int place = 0; place < size[0] * size[1]; place++) {
                int x = place % size[0], y = place / size[0];
                FeltGlass glass = Checks.panel(size[0], size[1]);
                // So weak a finger is sensed by the cell under it alone.
                Checks.reads(glass, "0@" + 2 * x + "," + 2 * y + "*10", 1);
                for (int cell = 0; cell < size[0] * size[1]; cell++) {
                    due("sensed by " + cell, glass.cell(cell, 5), cell == place ? 10 : 0);
                }
            }
        }
    }

    private static boolean near(int wide, int one, int other) {
        return Math.abs(one % wide - other % wide) <= 1 && Math.abs(one / wide - other / wide) <= 1;
    }

    private static void neighboursStayFromDrift() {
        panel("The neighbours of a cell are those of the eight cells around it that exist.");
        for (int[] size : SIZES) {
            int cells = size[0] * size[1];
            for (int spot = 0; spot < cells; spot++) {
                FeltGlass x = Checks.panel(size[0], size[1]);
                x.warm(5);
                raise(x, spot, 60);
                x.frames(1);
                for (int cell = 0; cell < cells; cell++) {
                    due("baseline of " + cell + " with a spot at " + spot, x.cell(cell, 1),
                        near(size[0], spot, cell) ? 100 : 102);
                }
            }
        }
    }

    private static void neighboursAreNotQuiet() {
        panel("The neighbours of a cell are those of the eight cells around it that exist.");
        for (int touched = 0; touched < 20; touched++) {
            FeltGlass x = still(5, 4);
            raise(x, touched, 60);
            for (int cell = 0; cell < 20; cell++) {
                if (cell == touched) continue;
                raise(x, cell, -7);
                x.frames(1);
                due("spread with " + touched + " touched, -7 at " + cell, x.about(3), near(5, touched, cell) ? 0 : 7);
                raise(x, cell, 0);
            }
        }
    }

    private static void neighboursFormHills() {
        panel("The neighbours of a cell are those of the eight cells around it that exist.");
        for (int[] size : new int[][] {{4, 3}, {3, 4}}) {
            for (int one = 0; one < 12; one++) {
                for (int other = 0; other < 12; other++) {
                    if (one == other) continue;
                    FeltGlass x = hills(size[0], size[1], 1, one, 60, other, 50);
                    due("spots of " + one + " and " + other, x.about(5), near(size[0], one, other) ? 1 : 2);
                }
            }
        }
    }

    private static void fingersOffAtFirst() {
        panel("There are five fingers, 0 to 4, each off (as at first) or on");
        FeltGlass x = Checks.panel(8, 8);
        for (int finger = 0; finger <= 4; finger++) due("off", x.finger(finger, 0), 0);
        due("no finger 5", x.finger(5, 0), UNKNOWN);
        due("no finger -1", x.finger(-1, 0), UNKNOWN);
        for (int cell = 0; cell < 64; cell++) due("sensed", x.cell(cell, 5), 0);
        Checks.reads(x, "0@0,0*99;4@14,14*99", 2);
        x.glass(8, 8);
        for (int finger = 0; finger <= 4; finger++) due("off on the next panel", x.finger(finger, 0), 0);
    }

    private static void sensedAboveZero() {
        panel("if this is above 0, and otherwise 0");
        // At (3, 2) the cells 4 and 5 of a row are one half cell away, which takes 12.
        int[] powers = {10, 11, 12, 13, 14, 250};
        int[] sensed = {0, 0, 0, 1, 2, 238};
        for (int i = 0; i < powers.length; i++) {
            FeltGlass x = Checks.panel(3, 3);
            Checks.reads(x, "0@3,2*" + powers[i], 1);
            due("on the left of " + powers[i], x.cell(4, 5), sensed[i]);
            due("on the right of " + powers[i], x.cell(5, 5), sensed[i]);
        }
        // A whole cell away is 48, diagonally 96, two cells 192; three cells are beyond any finger.
        int[] steps = {48, 96, 192, 240};
        int[] cells = {1, 9, 2, 10};
        for (int i = 0; i < steps.length; i++) {
            for (int power = steps[i] - 1; power <= steps[i] + 1; power++) {
                FeltGlass x = Checks.panel(8, 8);
                Checks.reads(x, "0@0,0*" + power, 1);
                due("cell " + cells[i] + " of " + power, x.cell(cells[i], 5), Math.max(0, power - steps[i]));
            }
        }
        FeltGlass x = Checks.panel(8, 8);
        Checks.reads(x, "0@0,0*250", 1);
        due("under it", x.cell(0, 5), 250);
        due("two cells away", x.cell(16, 5), 58);
        due("three cells away", x.cell(3, 5), 0);
        due("far away", x.cell(63, 5), 0);
    }

    private static void sensedOfAllFingers() {
        panel("The cell at (x, y) senses of a finger that is on");
        FeltGlass x = Checks.panel(8, 8);
        Checks.reads(x, "0@0,0*250;1@14,14*10;2@14,0*250", 3);
        due("nothing is taken off for those far away", x.cell(0, 5), 250);
        due("under the weak one", x.cell(63, 5), 10);
        due("under the third one", x.cell(7, 5), 250);
        Checks.reads(x, "1@0,0*250;2@0,0*250", 3);
        Checks.reads(x, "3@0,0*250;4@0,0*250", 5);
        due("five at one place", x.cell(0, 5), 1250);
        due("five beside it", x.cell(1, 5), 5 * 202);
        Checks.reads(x, "0-", 4);
        due("four", x.cell(0, 5), 1000);
        Checks.reads(x, "1-;2-;3-;4-", 0);
        due("none", x.cell(0, 5), 0);
    }

    private static void backgroundsAtFirst() {
        panel("Each cell has a background from 0 to 999 and a baseline, both 100 at first.");
        FeltGlass x = Checks.panel(8, 8);
        for (int cell = 0; cell < 64; cell++) {
            due("background", x.cell(cell, 0), 100);
            due("baseline", x.cell(cell, 1), 100);
        }
        due("air 0", x.air(0, 0), 100);
        due("air 999", x.air(0, 999), 0);
        due("air 1000", x.air(0, 1000), Checks.OUTSIDE);
        due("air -1", x.air(0, -1), Checks.OUTSIDE);
        due("999 stays", x.cell(0, 0), 999);
    }

    private static void drivesAtFirst() {
        panel("There are three drives, 0 to 2, each with a noise level from 0 to 60, 0 at first; one of them is active,"
            + " drive 0 at first.");
        FeltGlass x = Checks.panel(3, 3);
        due("active", x.about(2), 0);
        for (int drive = 0; drive <= 2; drive++) due("level", x.noise(drive, 0), 0);
        due("no drive 3", x.noise(3, 0), Checks.OUTSIDE);
        due("no level 61", x.noise(2, 61), Checks.OUTSIDE);
        x.noise(1, 60);
        x.noise(2, 60);
        x.frames(5);
        due("the others are not used", x.about(7), 1);
        x.noise(0, 1);
        x.frames(1);
        Checks.holds("drive 0 is used", x.about(7) != 1);
    }

    private static void seedAtFirst() {
        panel("There is a seed, which is 1 at first.");
        FeltGlass x = Checks.panel(3, 3);
        due("seed", x.about(7), 1);
        x.noise(0, 5);
        x.frames(1);
        x.glass(3, 3);
        due("seed of the next panel", x.about(7), 1);
    }

    private static void draws() {
        panel("the seed becomes (1103515245 * seed + 12345) modulo 2147483648, computed without overflow; the number is"
            + " (seed / 65536) modulo n");
        // By hand, the first draw: 0 leaves 12345; 1 leaves 1103527590; the greatest seed leaves 1043980748.
        int[] seeds = {0, 1, TOP}, numbers = {0, 16838, 15929};
        for (int i = 0; i < 3; i++) {
            for (int level : new int[] {1, 2, 59, 60}) {
                FeltGlass x = still(3, 3);
                x.seed(seeds[i]);
                x.noise(0, level);
                x.frames(1);
                due("raw by hand", x.cell(0, 2), 100 + numbers[i] % (2 * level + 1) - level);
            }
        }
        for (int seed : new int[] {0, 1, 2, 65535, 65536, 1073741823, 1073741824, TOP - 1, TOP}) {
            FeltGlass x = still(3, 3);
            x.seed(seed);
            x.noise(0, 60);
            x.frames(1);
            BigInteger now = BigInteger.valueOf(seed);
            for (int cell = 0; cell < 9; cell++) {
                now = now.multiply(BigInteger.valueOf(1103515245)).add(BigInteger.valueOf(12345));
                now = now.mod(BigInteger.valueOf(2147483648L));
                due("raw of " + cell + " from seed " + seed, x.cell(cell, 2), 40 + now.intValueExact() / 65536 % 121);
            }
            due("the seed after " + seed, x.about(7), now.intValueExact());
        }
    }

    private static void settingsAtFirst() {
        panel("There are nine settings, with these ranges and initial values");
        int[][] settings = {{20, 200, 40}, {10, 100, 20}, {1, 100, 80}, {2, 64, 10}, {1, 127, 24}, {0, 9, 1},
            {1, 30, 6}, {0, 50, 2}, {0, 200, 30}};
        FeltGlass x = Checks.panel(3, 3);
        for (int what = 0; what <= 8; what++) {
            due("below the least", x.bound(what, settings[what][0] - 1), Checks.OUTSIDE);
            due("above the greatest", x.bound(what, settings[what][1] + 1), Checks.OUTSIDE);
            due("the initial value", x.bound(what, settings[what][0]), settings[what][2]);
            due("the least", x.bound(what, settings[what][1]), settings[what][0]);
            due("the greatest", x.bound(what, settings[what][2]), settings[what][1]);
        }
        due("no tenth", x.bound(9, 20), Checks.OUTSIDE);
    }

    // ---- A FRAME, step 1: sensing

    private static void rawOfEachCellInOrder() {
        step(1, "For each cell in ascending order, the raw value is its background plus what it senses of all fingers");
        FeltGlass x = still(8, 8);
        x.air(0, 0);
        x.air(63, 999);
        Checks.reads(x, "0@0,0*250;1@14,14*250", 2);
        x.frames(1);
        due("the first cell", x.cell(0, 2), 250);
        due("its delta", x.cell(0, 3), 150);
        due("the last cell", x.cell(63, 2), 1249);
        due("its delta", x.cell(63, 3), 1149);
        due("beside the first cell", x.cell(1, 2), 302);
        due("in the middle", x.cell(28, 2), 100);
        FeltGlass noisy = still(4, 3);
        noisy.noise(0, 60);
        noisy.frames(1);
        long seed = 1;
        for (int cell = 0; cell < 12; cell++) {
            seed = (1103515245L * seed + 12345) % 2147483648L;
            due("draw " + cell, noisy.cell(cell, 2), 40 + seed / 65536 % 121);
        }
        noisy.frames(1);
        seed = (1103515245L * seed + 12345) % 2147483648L;
        due("the draws go on in the next frame", noisy.cell(0, 2), 40 + seed / 65536 % 121);
    }

    private static void noDrawWithoutNoise() {
        step(1, "if the noise level n of the active drive is above 0, a number below 2 * n + 1 is drawn");
        FeltGlass x = still(3, 3);
        x.seed(TOP);
        x.frames(20);
        due("level 0 draws nothing", x.about(7), TOP);
        for (int cell = 0; cell < 9; cell++) due("raw", x.cell(cell, 2), 100);
        x.noise(0, 1);
        x.frames(1);
        Checks.holds("level 1 draws", x.about(7) != TOP);
        int seed = x.about(7);
        x.noise(0, 0);
        x.frames(1);
        due("level 0 again", x.about(7), seed);
    }

    private static void noiseFromMinusNToN() {
        step(1, "and this number minus n is added");
        for (int level : new int[] {1, 2, 60}) {
            int least = 0, most = 0;
            for (int seed = 0; seed < 50; seed++) {
                FeltGlass x = still(3, 3);
                x.bound(TOUCH, 100);
                x.seed(1000003 * seed);
                x.noise(0, level);
                for (int frame = 0; frame < 10; frame++) {
                    x.frames(1);
                    for (int cell = 0; cell < 9; cell++) {
                        least = Math.min(least, x.cell(cell, 3));
                        most = Math.max(most, x.cell(cell, 3));
                    }
                }
            }
            due("least of level " + level, least, -level);
            due("greatest of level " + level, most, level);
        }
    }

    private static void greatestAndLeastRaw() {
        step(1, "The delta of a cell is its raw value minus its baseline.");
        FeltGlass x = still(8, 8);
        Checks.reads(x, "0@0,0*250;1@0,0*250", 2);
        Checks.reads(x, "2@0,0*250;3@0,0*250", 4);
        Checks.reads(x, "4@0,0*250", 5);
        x.air(0, 0);
        x.settle();
        x.air(0, 999);
        x.frames(1);
        due("the greatest raw value without noise", x.cell(0, 2), 2249);
        due("its delta", x.cell(0, 3), 2249);
        FeltGlass low = still(3, 3);
        for (int cell = 0; cell < 9; cell++) low.air(cell, 0);
        low.seed(0);
        low.noise(0, 60);
        low.frames(1);
        due("the least raw value", low.cell(0, 2), -60);
        due("its delta", low.cell(0, 3), -160);
        low.noise(0, 0);
        low.air(0, 999);
        low.settle();
        low.air(0, 0);
        low.frames(1);
        due("the least delta without noise", low.cell(0, 3), -999);
    }

    private static void touchedAtTheThreshold() {
        step(1, "A cell is touched if its delta is at least the touch threshold.");
        for (int threshold : new int[] {10, 11, 20, 99, 100}) {
            for (int delta = threshold - 1; delta <= threshold + 1; delta++) {
                FeltGlass x = still(5, 3);
                x.bound(TOUCH, threshold);
                raise(x, 5, 200, 6, delta);
                x.frames(1);
                due("cell with " + delta + " of " + threshold, x.cell(6, 4), delta >= threshold ? 0 : NONE);
                due("size", x.spot(0, 1), delta >= threshold ? 2 : 1);
            }
        }
        FeltGlass x = still(3, 3);
        raise(x, 4, -100);
        x.frames(1);
        due("a low cell is not touched", x.about(5), 0);
    }

    // ---- A FRAME, step 2: noise

    private static void spreadOfQuietCells() {
        step(2, "The spread is the greatest minus the smallest delta of all cells that are neither touched nor"
            + " neighbours of a touched cell");
        FeltGlass x = still(3, 3);
        x.frames(1);
        due("all equal", x.about(3), 0);
        x.warm(-9);
        raise(x, 8, -5);
        x.frames(1);
        due("all below 0", x.about(3), 4);
        x.warm(20);
        x.frames(1);
        due("all above 0", x.about(3), 4);
        x = still(5, 3);
        raise(x, 0, -50, 14, 19);
        x.frames(1);
        due("the first and the last cell", x.about(3), 69);
        raise(x, 14, 20);
        x.frames(1);
        due("the last cell is touched", x.about(3), 50);
        raise(x, 14, 19, 13, 20);
        x.frames(1);
        due("the last cell is a neighbour of a touched one", x.about(3), 50);
        raise(x, 6, 20);
        x.frames(1);
        due("all are near", x.about(3), 0);
    }

    private static void noQuietCells() {
        step(2, "and 0 if there are no such cells");
        FeltGlass x = still(3, 3);
        x.bound(NOISE, 0);
        raise(x, 4, 50, 0, -90, 8, 15);
        x.frames(1);
        due("no quiet cell", x.about(3), 0);
        due("not noisy", x.about(4), 0);
        due("a spot", x.about(5), 1);
        x.warm(99);
        x.frames(1);
        due("still none", x.about(3), 0);
        // Cell 6 alone is neither touched nor near.
        x = still(3, 3);
        x.bound(NOISE, 0);
        raise(x, 0, 50, 2, 50, 5, 50, 6, -90);
        x.frames(1);
        due("one quiet cell", x.about(3), 0);
        due("not noisy", x.about(4), 0);
    }

    private static void spreadAboveTheThreshold() {
        step(2, "If the spread is above the noise threshold, the frame is noisy");
        for (int threshold : new int[] {0, 1, 30, 199, 200}) {
            for (int spread = Math.max(0, threshold - 1); spread <= threshold + 1; spread++) {
                FeltGlass x = Checks.panel(3, 3);
                x.bound(DRIFT, 0);
                x.bound(NOISE, threshold);
                x.warm(99);
                x.warm(99);
                x.settle();
                x.air(4, 298 - spread);
                x.frames(1);
                due("spread", x.about(3), spread);
                due("noisy with " + spread + " of " + threshold, x.about(4), spread > threshold ? 1 : 0);
                due("noisy frames", x.count(2), spread > threshold ? 1 : 0);
                due("drive", x.about(2), spread > threshold ? 1 : 0);
            }
        }
    }

    private static void nextDrive() {
        step(2, "the next drive becomes active (drive 0 after drive 2)");
        FeltGlass x = Checks.panel(3, 3);
        raise(x, 0, -31);
        int[] drives = {1, 2, 0, 1, 2, 0, 1};
        for (int drive : drives) {
            x.frames(1);
            due("drive", x.about(2), drive);
        }
        raise(x, 0, -30);
        x.bound(DRIFT, 0);
        x.frames(3);
        due("no next drive without noise", x.about(2), 1);
        x.glass(3, 3);
        raise(x, 0, -31);
        x.frames(20);
        due("20 noisy frames", x.about(2), 2);
        // The level of the drive that was active counts in the frame; from drive 2 on to 0, which has none.
        x.noise(0, 0);
        x.noise(1, 60);
        x.noise(2, 1);
        x.frames(1);
        Checks.holds("drive 2 drew", x.about(7) != 1 && Math.abs(x.cell(8, 3)) <= 1);
        due("drive 0 is next", x.about(2), 0);
        int seed = x.about(7);
        x.frames(1);
        due("drive 0 draws nothing", x.about(7), seed);
        due("drive 1 is next", x.about(2), 1);
    }

    private static void noisyFrameHasNoSpots() {
        step(2, "the frame has no spots");
        FeltGlass x = Checks.panel(5, 5);
        raise(x, 0, 50, 4, 50);
        x.frames(1);
        due("two spots before", x.about(5), 2);
        raise(x, 24, -31);
        x.frames(1);
        due("noisy", x.about(4), 1);
        due("no spots", x.about(5), 0);
        due("spot(0, 0)", x.spot(0, 0), UNKNOWN);
        due("cell(0, 4)", x.cell(0, 4), NONE);
        due("cell(4, 4)", x.cell(4, 4), NONE);
        x.settle();
        raise(x, 0, 90, 4, 100);
        x.frames(1);
        due("not noisy", x.about(4), 0);
    }

    private static void furtherStepsOmitted() {
        step(2, "and all further steps are omitted");
        FeltGlass x = Checks.panel(5, 5);
        x.bound(HOLD, 0);
        raise(x, 0, 50);
        x.frames(1);
        int[] track = {1, 0, 0, 1, 50, 1, 0, 0, 0};
        raise(x, 0, 0, 24, 15, 4, -16);
        due("no event", x.frames(20), 0);
        due("all noisy", x.count(2), 20);
        due("a track without spot stays though the hold is 0", x.about(6), 1);
        for (int what = 0; what <= 8; what++) due("track(0, " + what + ")", x.track(0, what), track[what]);
        due("baseline of 24 stays", x.cell(24, 1), 100);
        due("baseline of 4 stays", x.cell(4, 1), 100);
        due("the frames count", x.about(8), 21);
        raise(x, 12, 50, 24, -31, 4, 0);
        x.frames(1);
        due("no new track", x.about(6), 1);
        due("no track has begun", x.count(3), 1);
        raise(x, 0, 50, 12, 0, 24, 0);
        due("the track goes down at age 2", x.frames(1), 1);
        due("event", x.event(0, 2), 23);
    }

    // ---- A FRAME, step 3: hills

    private static void lowestOfSeveral() {
        step(3, "of several the one with the lowest number");
        // 10 and 12 of a row are equal; the cell between them, and those above and below it, go to 10.
        FeltGlass x = hills(8, 3, 100, 10, 60, 12, 60, 3, 20, 11, 20, 19, 20);
        due("above", x.cell(3, 4), 0);
        due("between", x.cell(11, 4), 0);
        due("below", x.cell(19, 4), 0);
        due("size of the lower one", x.spot(0, 1), 4);
        raise(x, 12, 61);
        x.frames(1);
        due("the greater one counts first", x.spot(1, 1), 4);
        // One above the other: the upper one is lower by number.
        x = hills(3, 8, 100, 4, 60, 10, 60, 7, 20);
        due("between one above the other", x.cell(7, 4), 0);
        // Equal to itself: a cell does not stay if an equal neighbour is lower.
        x = hills(8, 3, 100, 9, 50, 10, 50);
        due("one spot", x.about(5), 1);
        due("peak", x.spot(0, 0), 9);
    }

    private static void greatestNeighbour() {
        step(3, "From a touched cell one goes to the cell with the greatest delta among it and its neighbours");
        int[] around = {6, 7, 8, 11, 13, 16, 17, 18};
        for (int one : around) {
            due("from 12 to " + one, hills(5, 5, 100, 12, 59, one, 60).spot(0, 0), one);
            due("not from 12 to " + one, hills(5, 5, 100, 12, 60, one, 59).spot(0, 0), 12);
            for (int other : around) {
                if (near(5, one, other)) continue;
                FeltGlass x = hills(5, 5, 100, 12, 30, one, 60, other, 59);
                due("two spots", x.about(5), 2);
                due("12 beside " + one + " with 60 and " + other + " with 59", x.cell(12, 4), x.cell(one, 4));
                x = hills(5, 5, 100, 12, 30, one, 60, other, 60);
                due("12 beside " + one + " and " + other + " with 60", x.cell(12, 4), 0);
            }
        }
    }

    private static void goesOnToThePeak() {
        step(3, "and so on from there, until one stays at the same cell; this cell is the peak for the first one");
        FeltGlass x = hills(8, 3, 100, 8, 20, 9, 30, 10, 40, 11, 50, 12, 60, 13, 70, 14, 80, 15, 90);
        due("one spot", x.about(5), 1);
        due("peak", x.spot(0, 0), 15);
        due("size", x.spot(0, 1), 8);
        x = hills(8, 3, 100, 8, 90, 9, 80, 10, 70, 11, 60, 12, 50, 13, 40, 14, 30, 15, 20);
        due("peak of a descent", x.spot(0, 0), 8);
        due("size of a descent", x.spot(0, 1), 8);
        x = still(8, 8);
        x.warm(60);
        x.frames(1);
        due("all cells are equal: one spot", x.about(5), 1);
        due("its peak is the lowest cell", x.spot(0, 0), 0);
        due("its size", x.spot(0, 1), 64);
        // A winding way, always to the greatest neighbour: 0, 9, 2, 11, 4.
        x = hills(8, 3, 100, 0, 50, 9, 55, 2, 60, 11, 65, 4, 70);
        due("the peak at the end of the way", x.spot(0, 0), 4);
        due("the size of the way", x.spot(0, 1), 5);
    }

    private static void noTouchedCell() {
        step(3, "The touched cells with the same peak form a hill.");
        FeltGlass x = still(3, 3);
        x.frames(1);
        due("no hill, no spot", x.about(5), 0);
        due("no track", x.about(6), 0);
        x = hills(3, 3, 100, 4, 50, 3, 19);
        due("a cell that is not touched is in no hill", x.spot(0, 1), 1);
    }

    private static void greatestPass() {
        step(3, "The pass of two hills is the greatest value, over all pairs of neighbouring cells of which one belongs"
            + " to each hill, of the smaller one of both deltas");
        // Between the peaks 9 and 11 lie 10 with 30 and 18 with 50: the pass is 50.
        int[] deltas = {9, 100, 11, 100, 10, 30, 18, 50};
        due("at 50", hills(8, 3, 50, deltas).about(5), 1);
        due("above 50", hills(8, 3, 51, deltas).about(5), 2);
        // The greater one is the last pair or the first one.
        int[] turned = {9, 100, 11, 100, 2, 50, 18, 30};
        due("turned, at 50", hills(8, 3, 50, turned).about(5), 1);
        due("turned, above 50", hills(8, 3, 51, turned).about(5), 2);
        // Neighbours at a corner: 9, 18, 27, 36 go down and up again.
        int[] corner = {9, 100, 18, 60, 27, 55, 36, 100};
        due("over a corner, at 55", hills(8, 8, 55, corner).about(5), 1);
        due("over a corner, above 55", hills(8, 8, 56, corner).about(5), 2);
    }

    private static void noPass() {
        step(3, "if there are no such cells, the hills have no pass");
        due("a cell below the threshold between", hills(8, 3, 1, 9, 100, 10, 19, 11, 100).about(5), 2);
        due("a cell at the threshold between", hills(8, 3, 1, 9, 100, 10, 20, 11, 100).about(5), 1);
        due("far apart", hills(8, 8, 1, 0, 100, 63, 100).about(5), 2);
        due("the end of a row and the begin of the next", hills(8, 3, 1, 7, 100, 8, 100).about(5), 2);
        FeltGlass x = hills(8, 3, 1, 9, 100, 10, 90, 11, 100);
        due("a pass in one frame", x.about(5), 1);
        raise(x, 10, 19);
        x.frames(1);
        due("is none in the next one", x.about(5), 2);
    }

    /** Cells one and other, and beside each a peak that the other one does not see: their only pass is 55. */
    private static void passBetween(int one, int other) {
        for (int peak = 0; peak < 25; peak++) {
            for (int otherPeak = 0; otherPeak < 25; otherPeak++) {
                boolean apart = !near(5, peak, other) && !near(5, otherPeak, one) && !near(5, peak, otherPeak);
                if (!apart || !near(5, peak, one) || !near(5, otherPeak, other)) continue;
                int[] deltas = {one, 60, other, 55, peak, 100, otherPeak, 101};
                String way = " over " + one + " and " + other + " from " + peak + " to " + otherPeak;
                due("at 55" + way, hills(5, 5, 55, deltas).about(5), 1);
                due("above 55" + way, hills(5, 5, 56, deltas).about(5), 2);
            }
        }
    }

    private static void passInAllDirections() {
        step(3, "over all pairs of neighbouring cells of which one belongs to each hill");
        for (int one = 0; one < 25; one++) {
            for (int other = 0; other < 25; other++) {
                if (one != other && near(5, one, other)) passBetween(one, other);
            }
        }
    }

    private static void passOfAMergedHill() {
        step(3, "The pass of two hills is the greatest value, over all pairs of neighbouring cells");
        // The hill in the middle is merged first; its pass to the third one is that of both then.
        int[][] rows = {{100, 65, 70, 57, 100}, {100, 57, 70, 65, 100}};
        for (int[] row : rows) {
            int[] deltas = {9, row[0], 10, row[1], 11, row[2], 12, row[3], 13, row[4]};
            due("at 57", hills(8, 3, 57, deltas).about(5), 1);
            due("above 57", hills(8, 3, 58, deltas).about(5), 2);
        }
        // The same where the one that is merged first has the lowest peak, 2, and then where it has the highest.
        int[] low = {2, 70, 6, 65, 10, 100, 8, 57, 14, 100};
        due("the lowest, at 57", hills(5, 3, 57, low).about(5), 1);
        due("the lowest, above 57", hills(5, 3, 58, low).about(5), 2);
        int[] high = {12, 70, 6, 65, 0, 100, 8, 57, 4, 100};
        due("the highest, at 57", hills(5, 3, 57, high).about(5), 1);
        due("the highest, above 57", hills(5, 3, 58, high).about(5), 2);
    }

    private static void mergedAtThePercentage() {
        step(3, "Two hills can be merged if they have a pass, and 100 * pass is at least the valley percentage times"
            + " the smaller one of the deltas of both peaks.");
        due("80 of 100 at 80", hills(8, 3, 80, 9, 100, 10, 80, 11, 100).about(5), 1);
        due("79 of 100 at 80", hills(8, 3, 80, 9, 100, 10, 79, 11, 100).about(5), 2);
        due("81 of 100 at 80", hills(8, 3, 80, 9, 100, 10, 81, 11, 100).about(5), 1);
        // Not a whole number: 67 % of 50 is 33.5.
        due("33 of 50 at 67", hills(8, 3, 67, 9, 50, 10, 33, 11, 50).about(5), 2);
        due("34 of 50 at 67", hills(8, 3, 67, 9, 50, 10, 34, 11, 50).about(5), 1);
        FeltGlass x = Checks.panel(8, 3);
        raise(x, 9, 100, 10, 80, 11, 100);
        x.frames(1);
        due("80 at first", x.about(5), 1);
    }

    private static void leastAndGreatestPercentage() {
        step(3, "100 * pass is at least the valley percentage times");
        // 9 is a peak, and 10, as high as 9, belongs to 11: a pass as high as the smaller peak.
        due("100 of 100", hills(8, 3, 100, 9, 50, 10, 50, 11, 60).about(5), 1);
        due("99 of 100", hills(8, 3, 100, 9, 100, 10, 99, 11, 120).about(5), 2);
        due("99 of 99", hills(8, 3, 99, 9, 100, 10, 99, 11, 120).about(5), 1);
        // Two peaks of one plateau: 0 and 2 meet at 9 alone.
        FeltGlass plateau = hills(8, 3, 100, 0, 50, 9, 50, 2, 50);
        due("a plateau with two peaks", plateau.about(5), 1);
        due("its peak", plateau.spot(0, 0), 0);
        due("its size", plateau.spot(0, 1), 3);
        for (int peak = 1000; peak <= 1001; peak++) {
            FeltGlass x = still(8, 3);
            x.bound(VALLEY, 1);
            x.bound(TOUCH, 10);
            for (int cell = 9; cell <= 11; cell++) x.air(cell, 0);
            x.settle();
            // Fingers of power 10 are sensed by the cell under them alone.
            Checks.reads(x, "0@2,2*10;1@6,2*10", 2);
            x.air(9, peak - 10);
            x.air(10, 10);
            x.air(11, peak - 10);
            x.frames(1);
            due("the peak", x.cell(9, 3), peak);
            due("a pass of 10 between peaks of " + peak, x.about(5), peak == 1000 ? 1 : 2);
        }
    }

    private static void smallerPeakCounts() {
        step(3, "the smaller one of the deltas of both peaks");
        due("the right one is smaller", hills(8, 3, 80, 9, 200, 10, 48, 11, 60).about(5), 1);
        due("the left one is smaller", hills(8, 3, 80, 9, 60, 10, 48, 11, 200).about(5), 1);
        due("too low for the right one", hills(8, 3, 80, 9, 200, 10, 47, 11, 60).about(5), 2);
        due("too low for the left one", hills(8, 3, 80, 9, 60, 10, 47, 11, 200).about(5), 2);
    }

    /** Whether the middle one, 10, of the peaks 4, 10 and 16, one above the other, goes up or down. */
    private static void middleGoes(int passAbove, int passBelow, int spot) {
        FeltGlass x = hills(3, 8, 80, 4, 100, 7, passAbove, 10, 70, 13, passBelow, 16, 100);
        due("two spots", x.about(5), 2);
        due("the middle hill with " + passAbove + " and " + passBelow, x.cell(10, 4), spot);
        due("size above", x.spot(0, 1), spot == 0 ? 3 : 2);
        due("size below", x.spot(1, 1), spot == 0 ? 2 : 3);
    }

    private static void greatestPassFirst() {
        step(3, "As long as there are hills that can be merged, the two with the greatest pass are merged");
        middleGoes(58, 57, 0);
        middleGoes(57, 58, 1);
        middleGoes(56, 69, 1);
        middleGoes(69, 56, 0);
    }

    private static void lowestLowerPeak() {
        step(3, "of several pairs, the one whose lower peak (by cell number) is lowest");
        middleGoes(58, 58, 0);
        middleGoes(56, 56, 0);
        middleGoes(58, 59, 1);
    }

    private static void lowestOtherPeak() {
        step(3, "then the one whose other peak is lowest");
        // The low hill 2 touches 10 by way of 6, and 14 by way of 8.
        int[] passes = {58, 58, 58, 59, 59, 58};
        int[] owners = {0, 1, 0};
        for (int i = 0; i < 3; i++) {
            FeltGlass x = hills(5, 3, 80, 2, 70, 6, passes[2 * i], 10, 100, 8, passes[2 * i + 1], 14, 100);
            due("two spots", x.about(5), 2);
            due("first peak", x.spot(0, 0), 10);
            due("second peak", x.spot(1, 0), 14);
            due("2 with " + passes[2 * i] + " and " + passes[2 * i + 1], x.cell(2, 4), owners[i]);
        }
    }

    private static void mergedHillIsKnownByItsPeak() {
        step(3, "of several pairs, the one whose lower peak (by cell number) is lowest, then the one whose other peak"
            + " is lowest");
        // 0 is merged with 16 first, whose peak stays; then 2 is between 16 and 4, and 4 is the lower one.
        FeltGlass x = hills(8, 8, 80, 0, 90, 8, 85, 16, 100, 1, 58, 2, 70, 3, 58, 4, 100);
        due("two spots", x.about(5), 2);
        due("first peak", x.spot(0, 0), 4);
        due("second peak", x.spot(1, 0), 16);
        due("0 is merged with 16", x.cell(0, 4), 1);
        due("2 is merged with 4", x.cell(2, 4), 0);
        // If 0 has the greater delta, its peak stays, and 2 goes to it.
        raise(x, 0, 101);
        x.frames(1);
        due("first peak", x.spot(0, 0), 0);
        due("2 is merged with 0", x.cell(2, 4), 0);
        due("4 stays alone", x.spot(1, 1), 2);
    }

    private static void greaterPassThatCannotBeMerged() {
        step(3, "As long as there are hills that can be merged");
        // The pass of 100 between 200 and 200 is greater, but too low for them; that of 50 is not for 60.
        FeltGlass x = hills(8, 3, 80, 8, 200, 9, 100, 10, 200, 12, 60, 13, 50, 14, 60);
        due("three spots", x.about(5), 3);
        due("the last one is merged", x.spot(2, 1), 3);
        due("the first ones are not", x.spot(0, 1), 2);
    }

    private static void mergedAsLongAsPossible() {
        step(3, "As long as there are hills that can be merged, the two with the greatest pass are merged");
        FeltGlass x = hills(8, 3, 80, 8, 60, 9, 50, 10, 61, 11, 51, 12, 62, 13, 52, 14, 63);
        due("four hills become one", x.about(5), 1);
        due("its peak", x.spot(0, 0), 14);
        due("its size", x.spot(0, 1), 7);
        // Sixteen hills, the most that a panel can have.
        x = still(8, 8);
        x.warm(40);
        for (int cell = 0; cell < 64; cell++) if (cell % 2 == 0 && cell / 8 % 2 == 0) raise(x, cell, 50);
        x.bound(VALLEY, 80);
        x.frames(1);
        due("sixteen hills become one", x.about(5), 1);
        due("its peak", x.spot(0, 0), 0);
        due("its size", x.spot(0, 1), 64);
        x.bound(VALLEY, 81);
        x.frames(1);
        due("sixteen hills stay, of which six are spots", x.about(5), 6);
    }

    private static void peakOfTheMergedHill() {
        step(3, "The peak of the merged hill is the one of both peaks with the greater delta, and the one with the"
            + " lower number if both are equal.");
        due("the greater one is higher", hills(8, 3, 1, 9, 60, 10, 30, 11, 61).spot(0, 0), 11);
        due("both are equal", hills(8, 3, 1, 9, 61, 10, 30, 11, 61).spot(0, 0), 9);
        due("the greater one is lower", hills(8, 3, 1, 9, 62, 10, 30, 11, 61).spot(0, 0), 9);
        due("three equal ones", hills(8, 3, 1, 9, 60, 10, 30, 11, 60, 12, 40, 13, 60).spot(0, 0), 9);
        due("the greatest in the middle", hills(8, 3, 1, 9, 60, 10, 30, 11, 61, 12, 40, 13, 60).spot(0, 0), 11);
    }

    // ---- A FRAME, step 4: spots

    private static void atTheMinimumPeak() {
        step(4, "A hill is a spot if the delta of its peak is at least the minimum peak.");
        for (int least : new int[] {20, 21, 40, 199, 200}) {
            for (int delta = least - 1; delta <= least + 1; delta++) {
                FeltGlass x = still(3, 3);
                x.bound(TOUCH, 10);
                x.bound(MINIMUM_PEAK, least);
                raise(x, 4, delta);
                x.frames(1);
                due("peak of " + delta + " with " + least, x.about(5), delta >= least ? 1 : 0);
                due("the cell", x.cell(4, 4), delta >= least ? 0 : NONE);
            }
        }
        FeltGlass x = still(8, 3);
        raise(x, 9, 39, 10, 39, 11, 39);
        x.frames(1);
        due("the mass does not count", x.about(5), 0);
        due("no hill that is low is merged into a spot", hills(8, 3, 100, 9, 39, 10, 30, 11, 60).spot(0, 1), 2);
        due("a low hill that is merged is part of one", hills(8, 3, 70, 9, 39, 10, 30, 11, 60).spot(0, 1), 3);
    }

    private static void sizeAndMass() {
        step(4, "The size of a spot is the number of its cells, its mass is the sum of their deltas.");
        FeltGlass x = hills(3, 3, 100, 4, 40);
        due("one cell", x.spot(0, 1), 1);
        due("its mass", x.spot(0, 2), 40);
        x = still(8, 8);
        for (int cell = 0; cell < 64; cell++) x.air(cell, 0);
        x.settle();
        for (int cell = 0; cell < 64; cell++) x.air(cell, 999);
        x.frames(1);
        int[] facts = {0, 64, 64 * 999, 56, 56, 1};
        for (int what = 0; what <= 5; what++) due("all cells, " + what, x.spot(0, what), facts[what]);
        x = hills(3, 3, 100, 4, 50, 3, 20, 5, 19);
        due("a cell at the threshold belongs to it", x.spot(0, 2), 70);
    }

    /** Nine cells of a panel 5 cells wide and 5 high that are not neighbours of one another. */
    private static final int[] NINE = {0, 2, 4, 10, 12, 14, 20, 22, 24};

    private static void peaksOfNine(String what, int[] deltas, int... peaks) {
        FeltGlass x = still(5, 5);
        for (int i = 0; i < deltas.length; i++) raise(x, NINE[i], deltas[i]);
        x.frames(1);
        due("spots of " + what, x.about(5), peaks.length);
        for (int i = 0; i < peaks.length; i++) {
            due("peak " + i + " of " + what, x.spot(i, 0), peaks[i]);
            due("number of " + peaks[i] + " of " + what, x.cell(peaks[i], 4), i);
        }
        due("none after the last of " + what, x.spot(peaks.length, 0), UNKNOWN);
        int marked = 0;
        for (int cell : NINE) if (x.cell(cell, 4) != NONE) marked++;
        due("cells of spots of " + what, marked, peaks.length);
    }

    private static void sixSpotsOfMore() {
        step(4, "If there are more than six spots, only the six with the greatest masses remain");
        peaksOfNine("five", new int[] {50, 51, 52, 53, 54}, 0, 2, 4, 10, 12);
        peaksOfNine("six", new int[] {50, 51, 52, 53, 54, 55}, 0, 2, 4, 10, 12, 14);
        peaksOfNine("seven, the first one light", new int[] {50, 51, 52, 53, 54, 55, 56}, 2, 4, 10, 12, 14, 20);
        peaksOfNine("seven, the last one light", new int[] {56, 55, 54, 53, 52, 51, 50}, 0, 2, 4, 10, 12, 14);
        peaksOfNine("seven, the middle one light", new int[] {56, 55, 54, 40, 52, 51, 50}, 0, 2, 4, 12, 14, 20);
        peaksOfNine("nine", new int[] {90, 50, 80, 51, 70, 52, 60, 61, 62}, 0, 4, 12, 20, 22, 24);
        peaksOfNine("seven of which one is too low", new int[] {50, 51, 39, 53, 54, 55, 56}, 0, 2, 10, 12, 14, 20);
        // The mass counts, neither the peak nor the size: 0 and 1 are heavier than 3, and 16 and 17 are lighter.
        FeltGlass x = hills(8, 5, 100, 0, 40, 1, 30, 16, 40, 17, 20, 3, 61, 5, 61, 7, 61, 19, 61, 21, 61);
        int[] peaks = {0, 3, 5, 7, 19, 21};
        for (int i = 0; i < 6; i++) due("peak by mass", x.spot(i, 0), peaks[i]);
        due("heavy by two cells", x.spot(0, 2), 70);
        due("light in spite of two cells", x.cell(16, 4), NONE);
    }

    private static void equalMasses() {
        step(4, "of equal masses those with the lower peaks");
        peaksOfNine("nine equal ones", new int[] {50, 50, 50, 50, 50, 50, 50, 50, 50}, 0, 2, 4, 10, 12, 14);
        peaksOfNine("eight equal ones and a heavy one", new int[] {50, 50, 50, 50, 50, 50, 50, 50, 51},
            0, 2, 4, 10, 12, 24);
        peaksOfNine("a light one and eight equal ones", new int[] {49, 50, 50, 50, 50, 50, 50, 50, 50},
            2, 4, 10, 12, 14, 20);
    }

    private static void numberedByPeaks() {
        step(4, "The spots are numbered from 0 in ascending order of their peaks.");
        // The second one has the lowest cell, but the higher peak.
        FeltGlass x = hills(8, 3, 1, 0, 50, 8, 60, 16, 70, 3, 200);
        due("two spots", x.about(5), 2);
        due("first peak", x.spot(0, 0), 3);
        due("second peak", x.spot(1, 0), 16);
        due("the spot of the lowest cell", x.cell(0, 4), 1);
        due("none after the last", x.spot(2, 0), UNKNOWN);
    }

    private static void positionsTruncated() {
        step(4, "The position of a spot is X = (sum of 16 * x * delta over its cells) / mass and Y = (sum of 16 * y *"
            + " delta) / mass, truncated.");
        for (int[] size : SIZES) {
            for (int cell = 0; cell < size[0] * size[1]; cell++) {
                FeltGlass x = hills(size[0], size[1], 100, cell, 50);
                due("X of " + cell, x.spot(0, 3), 16 * (cell % size[0]));
                due("Y of " + cell, x.spot(0, 4), 16 * (cell / size[0]));
            }
        }
        // 16 * 31 / 71 = 6.99, 16 * 59 / 119 = 7.93, 16 * 60 / 120 = 8.
        due("X just below 7", hills(8, 3, 1, 8, 40, 9, 31).spot(0, 3), 6);
        due("Y just below 7", hills(3, 8, 1, 1, 40, 4, 31).spot(0, 4), 6);
        due("X below 8", hills(8, 3, 1, 8, 60, 9, 59).spot(0, 3), 7);
        due("X of 8", hills(8, 3, 1, 8, 60, 9, 60).spot(0, 3), 8);
        due("Y below 8", hills(3, 8, 1, 1, 60, 4, 59).spot(0, 4), 7);
        due("Y of 8", hills(3, 8, 1, 1, 60, 4, 60).spot(0, 4), 8);
        // 16 * 100 * 7 + 16 * 20 * 6 = 13120, divided by 120 it is 109.33.
        due("X near the end", hills(8, 3, 1, 15, 100, 14, 20).spot(0, 3), 109);
    }
}
