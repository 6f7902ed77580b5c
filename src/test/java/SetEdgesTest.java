/** The boundary cases that promises 1 and 6 to 13 name, a test for each sentence. */
public final class SetEdgesTest {
    private static final int NONE = Checks.NONE, UNKNOWN = Checks.UNKNOWN;
    private static final int OUTSIDE = Checks.OUTSIDE, STATE = Checks.STATE;
    private static final int LOW = Integer.MIN_VALUE, TOP = Integer.MAX_VALUE;
    private static final int NOISE = 8;
    private static final int[] FIRST_SETTINGS = {40, 20, 80, 10, 24, 1, 6, 2, 30};

    public static void main(String[] args) {
        newObject();
        fiveHundredAndTwelveCalls();
        glassSizes();
        glassOutside();
        glassWide();
        glassHigh();
        glassInitialState();
        glassKeeps();
        airCells();
        airValues();
        airOutside();
        airPrevious();
        warmRange();
        warmErrors();
        warmLimits();
        warmChanges();
        noiseErrors();
        noiseDrives();
        noiseLevels();
        noisePrevious();
        seedRange();
        seedErrors();
        seedPrevious();
        boundErrors();
        boundSettings();
        boundPrevious();
        boundSettingRange();
        settleChanges();
        framesRange();
        framesErrors();
        framesEvents();
        Checks.end();
    }

    private static void sentence(int promise, String words) {
        Checks.sentence("Promise " + promise, words);
    }

    private static void due(String call, long got, long want) {
        Checks.due(call, got, want);
    }

    private static FeltGlass touchedPanel(int wide, int high, int cell) {
        FeltGlass x = Checks.still(wide, high);
        Checks.raise(x, cell, 50);
        return x;
    }

    // ---- Promise 1: a new object

    private static void newObject() {
        sentence(1, "Creates an object without a panel, with an empty page and no events.");
        FeltGlass x = new FeltGlass();
        due("about(0)", x.about(0), STATE);
        due("cell(0, 0)", x.cell(0, 0), UNKNOWN);
        due("spot(0, 0)", x.spot(0, 0), UNKNOWN);
        due("track(0, 0)", x.track(0, 0), UNKNOWN);
        due("event(0, 0)", x.event(0, 0), UNKNOWN);
        due("blank()", x.blank(), 0);
        for (int what = 0; what <= 5; what++) due("count " + what, x.count(what), 0);
        for (int sort = 1; sort <= 4; sort++) due("events " + sort, x.events(sort), 0);
        FeltGlass busy = Busy.panel();
        due("a panel of one object", busy.about(0), 5);
        due("is no panel of another", new FeltGlass().about(0), STATE);
        due("events of one are no events of another", new FeltGlass().event(0, 0), UNKNOWN);
    }

    private static void fiveHundredAndTwelveCalls() {
        Checks.sentence("What it is", "An object is used for at most 512 calls after it has been made");
        int frames = 20 * 509;
        due("frames on all panels, by the 512th call", manyFrames(50).count(1), frames);
        due("the age, by the 512th call", manyFrames(50).track(0, 5), frames);
        due("frames on this panel, by the 512th call", manyFrames(0).about(8), frames);
        due("noisy frames, by the 512th call", manyFrames(-31).count(2), frames);
        due("the drive, by the 512th call", manyFrames(-31).about(2), frames % 3);
        FeltGlass pages = new FeltGlass();
        for (int call = 1; call < 512; call++) pages.letter(65);
        due("the 512th letter", pages.letter(65), Checks.FULL);
        FeltGlass panels = new FeltGlass();
        for (int call = 1; call < 512; call++) panels.glass(8, 8);
        due("the 512th call after 511 panels", panels.count(5), 511);
    }

    /** 511 calls: a panel, a background, and 509 times 20 frames. */
    private static FeltGlass manyFrames(int delta) {
        FeltGlass x = new FeltGlass();
        x.glass(3, 3);
        x.air(4, 100 + delta);
        for (int call = 3; call <= 511; call++) x.frames(20);
        return x;
    }

    // ---- Promise 6: glass

    private static void glassSizes() {
        sentence(6, "Returns the number of cells");
        for (int wide = 3; wide <= 8; wide++) {
            for (int high = 3; high <= 8; high++) {
                FeltGlass x = new FeltGlass();
                due("glass(" + wide + ", " + high + ")", x.glass(wide, high), wide * high);
                due("W", x.about(0), wide);
                due("H", x.about(1), high);
                due("the last cell", x.cell(wide * high - 1, 0), 100);
                due("the cell after it", x.cell(wide * high, 0), UNKNOWN);
            }
        }
        FeltGlass x = new FeltGlass();
        x.glass(8, 8);
        x.glass(3, 3);
        due("a cell of the larger panel before", x.cell(9, 0), UNKNOWN);
        x.glass(8, 8);
        due("a cell of the larger panel again", x.cell(63, 0), 100);
    }

    private static void glassOutside() {
        sentence(6, "OUTSIDE if an argument is out of range.");
        FeltGlass x = new FeltGlass();
        due("both too small", x.glass(2, 2), OUTSIDE);
        due("both too great", x.glass(9, 9), OUTSIDE);
        due("one too small, one too great", x.glass(2, 9), OUTSIDE);
        due("no panel", x.about(0), STATE);
        due("no panel was created", x.count(5), 0);
        x = Checks.panel(4, 5);
        due("glass(2, 8) on a panel", x.glass(2, 8), OUTSIDE);
        due("the panel stays", x.about(0), 4);
        due("panels", x.count(5), 1);
    }

    private static void glassWide() {
        sentence(6, "W, 3 to 8");
        for (int wide : new int[] {2, 9, 1, 0, -1, -3, 11, LOW, TOP, 256 + 3, 65536 + 3}) {
            for (int high = 3; high <= 8; high++) {
                FeltGlass x = new FeltGlass();
                due("glass(" + wide + ", " + high + ")", x.glass(wide, high), OUTSIDE);
                due("no panel", x.about(0), STATE);
            }
        }
        due("the least", new FeltGlass().glass(3, 5), 15);
        due("the greatest", new FeltGlass().glass(8, 5), 40);
    }

    private static void glassHigh() {
        sentence(6, "H, 3 to 8");
        for (int high : new int[] {2, 9, 1, 0, -1, -3, 11, LOW, TOP, 256 + 3, 65536 + 3}) {
            for (int wide = 3; wide <= 8; wide++) {
                FeltGlass x = new FeltGlass();
                due("glass(" + wide + ", " + high + ")", x.glass(wide, high), OUTSIDE);
                due("no panel", x.about(0), STATE);
            }
        }
        due("the least", new FeltGlass().glass(5, 3), 15);
        due("the greatest", new FeltGlass().glass(5, 8), 40);
    }

    private static void glassInitialState() {
        sentence(6, "All of it is in the initial state, without frames, spots and tracks.");
        FeltGlass x = Busy.panel(), fresh = Checks.panel(5, 5);
        x.air(3, 999);
        x.settle();
        Checks.raise(x, 24, -101);
        x.bound(NOISE, 0);
        x.frames(4);
        due("noisy before", x.about(4), 1);
        due("drive before", x.about(2), 1);
        due("glass(5, 5)", x.glass(5, 5), 25);
        for (int what = 0; what <= 8; what++) due("about " + what, x.about(what), fresh.about(what));
        for (int finger = 0; finger <= 4; finger++) due("finger is off", x.finger(finger, 0), 0);
        int[] cell = {100, 100, 0, 0, NONE, 0};
        for (int i = 0; i < 25; i++) {
            for (int what = 0; what <= 5; what++) due("cell " + i + ", " + what, x.cell(i, what), cell[what]);
        }
        due("no spot", x.spot(0, 0), UNKNOWN);
        due("no track", x.track(0, 0), UNKNOWN);
        for (int drive = 0; drive <= 2; drive++) due("noise of drive " + drive, x.noise(drive, 1), 0);
        for (int what = 0; what <= 8; what++) {
            due("setting " + what, x.bound(what, FIRST_SETTINGS[what]), FIRST_SETTINGS[what]);
        }
        due("seed", x.seed(1), 1);
    }

    private static void glassKeeps() {
        sentence(6, "The page, the events that are kept, and the results of events() and of count(1) to count(5) are"
            + " not reset.");
        FeltGlass x = Busy.panel();
        int[] counts = {40, 6, 0, 12, 1, 3};
        x.glass(3, 3);
        for (int what = 0; what <= 5; what++) due("count " + what, x.count(what), counts[what]);
        int[] sorts = {12, 0, 0, 6};
        for (int sort = 1; sort <= 4; sort++) due("events " + sort, x.events(sort), sorts[sort - 1]);
        for (int place = 0; place < 12; place++) {
            due("sort at " + place, x.event(place, 0), place < 6 ? 1 : 4);
            due("track at " + place, x.event(place, 1), 12 - place);
            due("frame at " + place, x.event(place, 2), place < 6 ? 6 : 4);
        }
        due("the page", x.blank(), 40);
        due("no thirteenth", x.event(12, 0), UNKNOWN);
        Checks.raise(x, 4, 60);
        x.frames(1);
        due("the next identifier", x.track(0, 0), 13);
    }

    // ---- Promise 7: air

    private static void airCells() {
        sentence(7, "UNKNOWN if there is no panel or no such cell");
        due("no panel", new FeltGlass().air(0, 5), UNKNOWN);
        due("no panel, wrong v", new FeltGlass().air(0, 1000), UNKNOWN);
        for (int[] size : new int[][] {{3, 3}, {8, 3}, {3, 8}, {8, 8}}) {
            FeltGlass x = Checks.panel(size[0], size[1]);
            int cells = size[0] * size[1];
            due("the first cell", x.air(0, 5), 100);
            due("the last cell", x.air(cells - 1, 6), 100);
            for (int cell : new int[] {-1, cells, LOW, TOP, 65536, 256}) {
                due("air(" + cell + ", 5)", x.air(cell, 5), UNKNOWN);
                due("air(" + cell + ", 1000)", x.air(cell, 1000), UNKNOWN);
                due("air(" + cell + ", -1)", x.air(cell, -1), UNKNOWN);
            }
            due("the first one", x.cell(0, 0), 5);
            due("the last one", x.cell(cells - 1, 0), 6);
            due("one in between", x.cell(1, 0), 100);
        }
    }

    private static void airValues() {
        sentence(7, "the new background, 0 to 999");
        FeltGlass x = Checks.panel(3, 3);
        due("air(8, 0)", x.air(8, 0), 100);
        due("0", x.cell(8, 0), 0);
        due("air(8, 999)", x.air(8, 999), 0);
        due("999", x.cell(8, 0), 999);
    }

    private static void airOutside() {
        sentence(7, "OUTSIDE if v is out of range.");
        FeltGlass x = Checks.panel(3, 3);
        for (int v : new int[] {-1, 1000, LOW, TOP, -999, 65536}) {
            due("air(8, " + v + ")", x.air(8, v), OUTSIDE);
            due("the background", x.cell(8, 0), 100);
        }
    }

    private static void airPrevious() {
        sentence(7, "Returns the previous background");
        FeltGlass x = Checks.panel(3, 3);
        due("100 at first", x.air(4, 100), 100);
        due("the same again", x.air(4, 7), 100);
        due("then 7", x.air(4, 999), 7);
        x.warm(-99);
        due("then 900", x.air(4, 0), 900);
        due("the baseline", x.cell(4, 1), 100);
        for (int cell = 0; cell < 9; cell++) due("others", x.cell(cell, 0), cell == 4 ? 0 : 1);
    }

    // ---- Promise 8: warm

    private static void warmRange() {
        sentence(8, "the number, -99 to 99");
        FeltGlass x = Checks.panel(3, 3);
        due("warm(99)", x.warm(99), 9);
        due("199", x.cell(0, 0), 199);
        due("warm(-99)", x.warm(-99), 9);
        due("100", x.cell(8, 0), 100);
        due("warm(-1)", x.warm(-1), 9);
        due("99", x.cell(8, 0), 99);
    }

    private static void warmErrors() {
        sentence(8, "STATE if there is no panel; OUTSIDE if by is out of range.");
        for (int by : new int[] {0, 99, -99, 100, -100}) due("no panel", new FeltGlass().warm(by), STATE);
        FeltGlass x = Checks.panel(3, 3);
        for (int by : new int[] {-100, 100, LOW, TOP, -999, 999}) {
            due("warm(" + by + ")", x.warm(by), OUTSIDE);
            due("the background", x.cell(0, 0), 100);
        }
    }

    private static void warmLimits() {
        sentence(8, "which stay at least 0 and at most 999");
        FeltGlass x = Checks.panel(3, 3);
        int[] before = {0, 1, 98, 99, 900, 901, 998, 999, 500};
        int[] warmer = {99, 100, 197, 198, 999, 999, 999, 999, 599};
        int[] colder = {0, 0, 0, 0, 801, 802, 899, 900, 401};
        for (int cell = 0; cell < 9; cell++) x.air(cell, before[cell]);
        x.warm(99);
        for (int cell = 0; cell < 9; cell++) due("from " + before[cell], x.air(cell, before[cell]), warmer[cell]);
        x.warm(-99);
        for (int cell = 0; cell < 9; cell++) due("from " + before[cell], x.cell(cell, 0), colder[cell]);
    }

    private static void warmChanges() {
        sentence(8, "Returns how many backgrounds change");
        FeltGlass x = Checks.panel(3, 3);
        due("warm(0)", x.warm(0), 0);
        due("warm(1)", x.warm(1), 9);
        for (int cell = 0; cell < 8; cell++) x.air(cell, 999);
        x.air(8, 998);
        due("one may still rise", x.warm(99), 1);
        due("none may rise", x.warm(99), 0);
        due("all may fall", x.warm(-1), 9);
        for (int cell = 0; cell < 7; cell++) x.air(cell, 0);
        due("two may fall", x.warm(-99), 2);
        x.air(7, 0);
        x.air(8, 1);
        due("the last one falls to 0", x.warm(-2), 1);
        due("none may fall", x.warm(-1), 0);
        for (int cell = 0; cell < 9; cell++) due("the baselines stay", x.cell(cell, 1), 100);
        due("cells of the greatest panel", Checks.panel(8, 8).warm(1), 64);
    }

    // ---- Promise 9: noise

    private static void noiseErrors() {
        sentence(9, "STATE if there is no panel; OUTSIDE if an argument is out of range.");
        due("no panel", new FeltGlass().noise(0, 0), STATE);
        due("no panel, wrong drive", new FeltGlass().noise(3, 0), STATE);
        due("no panel, wrong level", new FeltGlass().noise(0, 61), STATE);
        due("both wrong", Checks.panel(3, 3).noise(3, 61), OUTSIDE);
        due("both wrong", Checks.panel(3, 3).noise(-1, -1), OUTSIDE);
    }

    private static void noiseDrives() {
        sentence(9, "the drive, 0 to 2");
        FeltGlass x = Checks.panel(3, 3);
        for (int drive : new int[] {-1, 3, LOW, TOP, 256}) due("drive " + drive, x.noise(drive, 5), OUTSIDE);
        for (int drive = 0; drive <= 2; drive++) due("drive " + drive, x.noise(drive, 5), 0);
    }

    private static void noiseLevels() {
        sentence(9, "the new noise level, 0 to 60");
        FeltGlass x = Checks.panel(3, 3);
        for (int drive = 0; drive <= 2; drive++) {
            for (int v : new int[] {-1, 61, LOW, TOP}) due("level " + v, x.noise(drive, v), OUTSIDE);
        }
        for (int drive = 0; drive <= 2; drive++) due("nothing was set", x.noise(drive, 60), 0);
        for (int drive = 0; drive <= 2; drive++) due("60 was set", x.noise(drive, 0), 60);
        for (int drive = 0; drive <= 2; drive++) due("0 was set", x.noise(drive, 1), 0);
    }

    private static void noisePrevious() {
        sentence(9, "Returns the previous noise level");
        FeltGlass x = Checks.panel(3, 3);
        for (int drive = 0; drive <= 2; drive++) due("0 at first", x.noise(drive, 10 + drive), 0);
        for (int drive = 0; drive <= 2; drive++) due("each its own", x.noise(drive, 20 + drive), 10 + drive);
        for (int drive = 2; drive >= 0; drive--) due("each its own", x.noise(drive, 20 + drive), 20 + drive);
    }

    // ---- Promise 10: seed

    private static void seedRange() {
        sentence(10, "the new seed, 0 or more");
        FeltGlass x = Checks.panel(3, 3);
        due("seed(0)", x.seed(0), 1);
        due("0", x.about(7), 0);
        due("seed(top)", x.seed(TOP), 0);
        due("top", x.about(7), TOP);
    }

    private static void seedErrors() {
        sentence(10, "STATE if there is no panel; OUTSIDE if v is negative.");
        for (int v : new int[] {0, 1, -1, LOW, TOP}) due("no panel", new FeltGlass().seed(v), STATE);
        FeltGlass x = Checks.panel(3, 3);
        due("seed(-1)", x.seed(-1), OUTSIDE);
        due("seed(low)", x.seed(LOW), OUTSIDE);
        due("the seed stays", x.about(7), 1);
    }

    private static void seedPrevious() {
        sentence(10, "Returns the previous seed");
        FeltGlass x = Checks.panel(3, 3);
        due("1 at first", x.seed(TOP), 1);
        due("then the greatest", x.seed(0), TOP);
        due("then the least", x.seed(5), 0);
        x.noise(0, 1);
        x.frames(1);
        long seed = 5;
        for (int i = 0; i < 9; i++) seed = (1103515245L * seed + 12345) % 2147483648L;
        due("as nine draws left it", x.seed(3), seed);
    }

    // ---- Promise 11: bound

    private static void boundErrors() {
        sentence(11, "STATE if there is no panel; OUTSIDE if an argument is out of range.");
        due("no panel", new FeltGlass().bound(0, 40), STATE);
        due("no panel, wrong setting", new FeltGlass().bound(9, 40), STATE);
        due("no panel, wrong value", new FeltGlass().bound(0, 19), STATE);
        due("both wrong", Checks.panel(3, 3).bound(9, -1), OUTSIDE);
        due("both wrong", Checks.panel(3, 3).bound(-1, 201), OUTSIDE);
    }

    private static void boundSettings() {
        sentence(11, "the setting, 0 to 8");
        FeltGlass x = Checks.panel(3, 3);
        for (int what : new int[] {-1, 9, LOW, TOP, 256, 65536}) {
            for (int v : new int[] {0, 20, 30, LOW, TOP}) due("bound " + what + ", " + v, x.bound(what, v), OUTSIDE);
        }
        for (int what = 0; what <= 8; what++) {
            due("nothing was set", x.bound(what, FIRST_SETTINGS[what]), FIRST_SETTINGS[what]);
        }
    }

    private static void boundPrevious() {
        sentence(11, "Returns the previous value");
        FeltGlass x = Checks.panel(3, 3);
        int[] second = {41, 21, 81, 11, 25, 2, 7, 3, 31};
        for (int what = 0; what <= 8; what++) due("at first", x.bound(what, second[what]), FIRST_SETTINGS[what]);
        for (int what = 8; what >= 0; what--) due("then", x.bound(what, second[what]), second[what]);
        for (int what = 0; what <= 8; what++) due("the same again", x.bound(what, FIRST_SETTINGS[what]), second[what]);
    }

    private static void boundSettingRange() {
        sentence(11, "the new value, in the range of this setting");
        int[] least = {20, 10, 1, 2, 1, 0, 1, 0, 0}, most = {200, 100, 100, 64, 127, 9, 30, 50, 200};
        for (int what = 0; what <= 8; what++) {
            FeltGlass x = Checks.panel(3, 3);
            for (int v : new int[] {least[what] - 1, most[what] + 1, LOW, TOP, -least[what] - 1}) {
                due("bound(" + what + ", " + v + ")", x.bound(what, v), OUTSIDE);
            }
            due("the first value", x.bound(what, least[what]), FIRST_SETTINGS[what]);
            due("too small", x.bound(what, least[what] - 1), OUTSIDE);
            due("the least value", x.bound(what, most[what]), least[what]);
            due("too great", x.bound(what, most[what] + 1), OUTSIDE);
            due("the greatest value", x.bound(what, most[what]), most[what]);
            for (int other = 0; other <= 8; other++) {
                if (other != what) due("others", x.bound(other, least[other]), FIRST_SETTINGS[other]);
            }
        }
    }

    // ---- Promise 12: settle

    private static void settleChanges() {
        sentence(12, "Returns how many baselines change; STATE if there is no panel.");
        due("no panel", new FeltGlass().settle(), STATE);
        FeltGlass x = Checks.panel(8, 8);
        due("none", x.settle(), 0);
        x.air(0, 101);
        due("one", x.settle(), 1);
        due("its baseline", x.cell(0, 1), 101);
        due("none again", x.settle(), 0);
        x.warm(-99);
        due("all", x.settle(), 64);
        x.air(63, 999);
        x.air(62, 0);
        x.air(0, 2);
        due("two", x.settle(), 2);
        due("the greatest baseline", x.cell(63, 1), 999);
        due("the least baseline", x.cell(62, 1), 0);
        due("the background stays", x.cell(62, 0), 0);
        Checks.reads(x, "0@0,0*15", 1);
        due("a finger is no background", x.settle(), 0);
        x.frames(1);
        due("baseline moved by a frame", x.cell(0, 1), 4);
        due("and back", x.settle(), 1);
    }

    // ---- Promise 13: frames

    private static void framesRange() {
        sentence(13, "the number of frames, 1 to 20");
        FeltGlass x = touchedPanel(3, 3, 4);
        due("frames(1)", x.frames(1), 0);
        due("one frame", x.about(8), 1);
        due("frames(20)", x.frames(20), 1);
        due("20 more", x.about(8), 21);
        due("on all panels", x.count(1), 21);
        for (int n = 1; n <= 20; n++) {
            x = Checks.panel(3, 3);
            x.frames(n);
            due("frames(" + n + ")", x.about(8), n);
        }
    }

    private static void framesErrors() {
        sentence(13, "STATE if there is no panel; OUTSIDE if n is out of range.");
        for (int n : new int[] {1, 20, 0, 21, -1}) due("no panel", new FeltGlass().frames(n), STATE);
        FeltGlass x = touchedPanel(3, 3, 4);
        for (int n : new int[] {0, 21, -1, -20, LOW, TOP, 256 + 1, 65536 + 1}) {
            due("frames(" + n + ")", x.frames(n), OUTSIDE);
            due("frames so far", x.about(8), 0);
            due("no spot", x.spot(0, 0), UNKNOWN);
        }
    }

    private static void framesEvents() {
        sentence(13, "Returns how many events occurred");
        FeltGlass x = Checks.panel(3, 3);
        due("nothing to sense", x.frames(20), 0);
        x = Busy.roaring();
        FeltGlass single = Busy.roaring();
        int all = x.frames(20), sum = 0;
        for (int i = 0; i < 20; i++) sum += single.frames(1);
        Checks.holds("more than are kept", all > 12);
        due("20 frames and 20 times one", all, sum);
        due("events of all sorts", x.events(1) + x.events(2) + x.events(3) + x.events(4), all);
        due("again, only the new ones", x.frames(20), x.events(1) + x.events(2) + x.events(3) + x.events(4) - all);
    }
}
