import java.util.Arrays;

/** A simulation of a capacitive touch panel and its controller. */
public final class FeltGlass {
    public static final int NONE = -1, UNKNOWN = -10001, OUTSIDE = -10002, STATE = -10003, FULL = -10004;

    private static final int LEAST_CODE = 32, MOST_CODE = 126, PAGE_ROOM = 40;
    private static final int LEAST_SIDE = 3, MOST_SIDE = 8, MOST_CELLS = 64, MOST_AROUND = 8;
    private static final int FINGERS = 5, LEAST_POWER = 10, MOST_POWER = 250, FALLOFF = 12;
    private static final int MOST_BACKGROUND = 999, FIRST_BACKGROUND = 100, MOST_WARMTH = 99;
    private static final int DRIVES = 3, MOST_NOISE = 60, FIRST_SEED = 1, MOST_FRAMES = 20;
    private static final int MOST_SPOTS = 6, MOST_TRACKS = 6, POSITION_SCALE = 16;

    private static final int FINGER_FACTS = 4, CELL_FACTS = 6, PANEL_FACTS = 9;
    private static final int SPOT_FACTS = 6, TRACK_FACTS = 9, EVENT_FACTS = 3, COUNTS = 6;

    private static final int SETTINGS = 9;
    private static final int MINIMUM_PEAK = 0, TOUCH_THRESHOLD = 1, VALLEY_PERCENTAGE = 2, PALM_SIZE = 3, REACH = 4;
    private static final int HOLD = 5, TAP_TIME = 6, DRIFT = 7, NOISE_THRESHOLD = 8;
    private static final int[] LEAST_SETTING = {20, 10, 1, 2, 1, 0, 1, 0, 0};
    private static final int[] MOST_SETTING = {200, 100, 100, 64, 127, 9, 30, 50, 200};
    private static final int[] FIRST_SETTING = {40, 20, 80, 10, 24, 1, 6, 2, 30};

    private static final int DOWN = 1, UP = 2, CALLED_OFF = 3, TAP = 4, SORTS = 4;
    private static final int KEPT_EVENTS = 12, MOST_TAP_PATH = 16, DOWN_AGE = 2;

    private final Page page;
    private final Panel panel;
    private final Journal journal;
    private int textsRead;
    private int panelsMade;

    public FeltGlass() {
        page = new Page();
        journal = new Journal();
        panel = new Panel(journal);
    }

    // ---- texts

    public int letter(int code) {
        if (!within(code, LEAST_CODE, MOST_CODE)) {
            return OUTSIDE;
        }
        if (page.length >= PAGE_ROOM) {
            return FULL;
        }
        page.append(code);
        return page.length;
    }

    public int blank() {
        int before = page.length;
        page.length = 0;
        return before;
    }

    public int fault() {
        if (!panel.present) {
            return STATE;
        }
        page.read(panel.grid, panel.hand);
        return page.at;
    }

    public int fingers() {
        if (!panel.present) {
            return STATE;
        }
        if (!page.read(panel.grid, panel.hand)) {
            return STATE;
        }
        panel.hand.copyFrom(page.draft);
        panel.surface.feel(panel.hand);
        page.length = 0;
        textsRead++;
        return panel.hand.onCount();
    }

    // ---- the glass

    public int glass(int wide, int high) {
        if (!within(wide, LEAST_SIDE, MOST_SIDE) || !within(high, LEAST_SIDE, MOST_SIDE)) {
            return OUTSIDE;
        }
        panel.renew(wide, high);
        panelsMade++;
        return panel.grid.cells;
    }

    public int air(int cell, int v) {
        if (!panel.hasCell(cell)) {
            return UNKNOWN;
        }
        if (!within(v, 0, MOST_BACKGROUND)) {
            return OUTSIDE;
        }
        int before = panel.surface.background[cell];
        panel.surface.background[cell] = v;
        return before;
    }

    public int warm(int by) {
        if (!panel.present) {
            return STATE;
        }
        if (!within(by, -MOST_WARMTH, MOST_WARMTH)) {
            return OUTSIDE;
        }
        return panel.surface.addToBackgrounds(by);
    }

    public int noise(int drive, int v) {
        if (!panel.present) {
            return STATE;
        }
        if (!within(drive, 0, DRIVES - 1) || !within(v, 0, MOST_NOISE)) {
            return OUTSIDE;
        }
        int before = panel.drives.level[drive];
        panel.drives.level[drive] = v;
        return before;
    }

    public int seed(int v) {
        if (!panel.present) {
            return STATE;
        }
        if (v < 0) {
            return OUTSIDE;
        }
        int before = panel.drives.seed;
        panel.drives.seed = v;
        return before;
    }

    public int bound(int what, int v) {
        if (!panel.present) {
            return STATE;
        }
        if (!within(what, 0, SETTINGS - 1) || !within(v, LEAST_SETTING[what], MOST_SETTING[what])) {
            return OUTSIDE;
        }
        int before = panel.settings[what];
        panel.settings[what] = v;
        return before;
    }

    public int settle() {
        if (!panel.present) {
            return STATE;
        }
        return panel.surface.baselinesToBackgrounds();
    }

    // ---- frames

    public int frames(int n) {
        if (!panel.present) {
            return STATE;
        }
        if (!within(n, 1, MOST_FRAMES)) {
            return OUTSIDE;
        }
        int before = journal.written;
        for (int i = 0; i < n; i++) {
            panel.runFrame();
        }
        return journal.written - before;
    }

    public int finger(int finger, int what) {
        if (!panel.present) {
            return STATE;
        }
        if (!within(finger, 0, FINGERS - 1)) {
            return UNKNOWN;
        }
        if (!within(what, 0, FINGER_FACTS - 1)) {
            return OUTSIDE;
        }
        return panel.hand.fact(finger, what);
    }

    public int cell(int cell, int what) {
        if (!panel.hasCell(cell)) {
            return UNKNOWN;
        }
        if (!within(what, 0, CELL_FACTS - 1)) {
            return OUTSIDE;
        }
        return panel.cellFact(cell, what);
    }

    public int about(int what) {
        if (!panel.present) {
            return STATE;
        }
        if (!within(what, 0, PANEL_FACTS - 1)) {
            return OUTSIDE;
        }
        return panel.fact(what);
    }

    public int spot(int spot, int what) {
        if (!panel.hasSpot(spot)) {
            return UNKNOWN;
        }
        if (!within(what, 0, SPOT_FACTS - 1)) {
            return OUTSIDE;
        }
        return panel.spots.row[spot][what];
    }

    public int track(int track, int what) {
        if (!panel.hasTrack(track)) {
            return UNKNOWN;
        }
        if (!within(what, 0, TRACK_FACTS - 1)) {
            return OUTSIDE;
        }
        return panel.tracks.row[track][what];
    }

    public int as(int track, int kind) {
        if (!panel.hasTrack(track)) {
            return UNKNOWN;
        }
        if (!within(kind, 0, 1)) {
            return OUTSIDE;
        }
        int[] row = panel.tracks.row[track];
        return row[Tracks.PALM] == kind ? row[Tracks.ID] : NONE;
    }

    public int event(int place, int what) {
        if (!within(place, 0, journal.kept() - 1)) {
            return UNKNOWN;
        }
        if (!within(what, 0, EVENT_FACTS - 1)) {
            return OUTSIDE;
        }
        return journal.fact(place, what);
    }

    public int count(int what) {
        switch (what) {
            case 0:
                return page.length;
            case 1:
                return panel.framesEver;
            case 2:
                return panel.noisyEver;
            case 3:
                return panel.tracks.begunEver;
            case 4:
                return textsRead;
            case 5:
                return panelsMade;
            default:
                return OUTSIDE;
        }
    }

    public int events(int sort) {
        if (!within(sort, 1, SORTS)) {
            return OUTSIDE;
        }
        return journal.occurred[sort];
    }

    public long digest() {
        long h = 1583;
        if (panel.present) {
            h = hashPanelAndFingers(h);
            h = hashCells(h);
            h = hashSpots(h);
            h = hashTracks(h);
        }
        h = hashJournal(h);
        for (int i = 0; i < page.length; i++) {
            h = 31 * h + page.sign[i];
        }
        for (int what = 0; what < COUNTS; what++) {
            h = 31 * h + count(what);
        }
        for (int sort = 1; sort <= SORTS; sort++) {
            h = 31 * h + events(sort);
        }
        return h;
    }

    private long hashPanelAndFingers(long before) {
        long h = before;
        for (int what = 0; what < PANEL_FACTS; what++) {
            h = 31 * h + about(what);
        }
        for (int finger = 0; finger < FINGERS; finger++) {
            for (int what = 0; what < FINGER_FACTS; what++) {
                h = 31 * h + finger(finger, what);
            }
        }
        return h;
    }

    private long hashCells(long before) {
        long h = before;
        for (int cell = 0; cell < panel.grid.cells; cell++) {
            for (int what = 0; what < CELL_FACTS; what++) {
                h = 31 * h + cell(cell, what);
            }
        }
        return h;
    }

    private long hashSpots(long before) {
        long h = before;
        for (int spot = 0; spot < panel.spots.size; spot++) {
            for (int what = 0; what < SPOT_FACTS; what++) {
                h = 31 * h + spot(spot, what);
            }
        }
        return h;
    }

    private long hashTracks(long before) {
        long h = before;
        for (int track = 0; track < panel.tracks.size; track++) {
            for (int what = 0; what < TRACK_FACTS; what++) {
                h = 31 * h + track(track, what);
            }
        }
        return h;
    }

    private long hashJournal(long before) {
        long h = before;
        for (int place = 0; place < journal.kept(); place++) {
            for (int what = 0; what < EVENT_FACTS; what++) {
                h = 31 * h + event(place, what);
            }
        }
        return h;
    }

    private static boolean within(int value, int least, int most) {
        return value >= least && value <= most;
    }

    /** The five fingers. */
    private static final class Hand {
        final boolean[] on = new boolean[FINGERS];
        final int[] u = new int[FINGERS];
        final int[] v = new int[FINGERS];
        final int[] power = new int[FINGERS];

        void liftAll() {
            for (int finger = 0; finger < FINGERS; finger++) {
                on[finger] = false;
            }
        }

        void put(int finger, int newU, int newV, int newPower) {
            on[finger] = true;
            u[finger] = newU;
            v[finger] = newV;
            power[finger] = newPower;
        }

        void copyFrom(Hand other) {
            for (int finger = 0; finger < FINGERS; finger++) {
                on[finger] = other.on[finger];
                u[finger] = other.u[finger];
                v[finger] = other.v[finger];
                power[finger] = other.power[finger];
            }
        }

        int onCount() {
            int found = 0;
            for (int finger = 0; finger < FINGERS; finger++) {
                if (on[finger]) {
                    found++;
                }
            }
            return found;
        }

        int sensedAt(int x, int y) {
            int sum = 0;
            for (int finger = 0; finger < FINGERS; finger++) {
                if (on[finger]) {
                    int across = 2 * x - u[finger];
                    int down = 2 * y - v[finger];
                    sum += Math.max(0, power[finger] - FALLOFF * (across * across + down * down));
                }
            }
            return sum;
        }

        int fact(int finger, int what) {
            if (what == 0) {
                return on[finger] ? 1 : 0;
            }
            if (!on[finger]) {
                return NONE;
            }
            return what == 1 ? u[finger] : what == 2 ? v[finger] : power[finger];
        }
    }

    /** The page, and how it reads as a text of fingers, up to the first sign that cannot stand where it is. */
    private static final class Page {
        final int[] sign = new int[PAGE_ROOM];
        int length;
        // The fingers as the text wants them; a text that turns out wrong leaves the real ones alone.
        final Hand draft = new Hand();
        // The first sign that has not been accepted; at the end, the fault.
        int at;
        private int mostU;
        private int mostV;

        void append(int code) {
            if (length < PAGE_ROOM) {
                sign[length] = code;
                length++;
            }
        }

        /** Answers whether the page is a whole text. */
        boolean read(Grid grid, Hand present) {
            mostU = 2 * grid.wide - 2;
            mostV = 2 * grid.high - 2;
            draft.copyFrom(present);
            at = 0;
            for (int part = 0; part < PAGE_ROOM; part++) {
                if (!readPart()) {
                    return false;
                }
                if (at >= length) {
                    return true;
                }
                if (!take(';')) {
                    return false;
                }
            }
            return false;
        }

        private boolean readPart() {
            int finger = digitHere();
            if (!within(finger, 0, FINGERS - 1)) {
                return false;
            }
            at++;
            if (take('-')) {
                draft.on[finger] = false;
                return true;
            }
            return take('@') && readPlace(finger);
        }

        private boolean readPlace(int finger) {
            int u = readNumber(0, mostU);
            if (u == NONE || !take(',')) {
                return false;
            }
            int v = readNumber(0, mostV);
            if (v == NONE || !take('*')) {
                return false;
            }
            int power = readNumber(LEAST_POWER, MOST_POWER);
            if (power == NONE) {
                return false;
            }
            draft.put(finger, u, v, power);
            return true;
        }

        /**
         * Answers NONE if no such number stands here; the place is then at the fault. Whether a number is too small
         * shows only where it ends, so that the fault of one, of 0 too, is the sign after it.
         */
        private int readNumber(int least, int most) {
            int value = NONE;
            for (int digits = 0; digits < PAGE_ROOM; digits++) {
                int digit = digitHere();
                if (digit == NONE) {
                    break;
                }
                int longer = value == NONE ? digit : 10 * value + digit;
                if (value == 0 || longer > most) {
                    return NONE;
                }
                value = longer;
                at++;
            }
            return value < least ? NONE : value;
        }

        private int digitHere() {
            int code = codeHere();
            return within(code, '0', '9') ? code - '0' : NONE;
        }

        private boolean take(char wanted) {
            if (codeHere() != wanted) {
                return false;
            }
            at++;
            return true;
        }

        private int codeHere() {
            return at < length ? sign[at] : NONE;
        }
    }

    /** The latest events, and how many there ever were. */
    private static final class Journal {
        final int[] sort = new int[KEPT_EVENTS];
        final int[] track = new int[KEPT_EVENTS];
        final int[] frame = new int[KEPT_EVENTS];
        final int[] occurred = new int[SORTS + 1];
        int written;

        void write(int newSort, int newTrack, int newFrame) {
            int slot = written % KEPT_EVENTS;
            if (slot >= 0 && within(newSort, 1, SORTS)) {
                sort[slot] = newSort;
                track[slot] = newTrack;
                frame[slot] = newFrame;
                occurred[newSort]++;
                written++;
            }
        }

        int kept() {
            return Math.min(written, KEPT_EVENTS);
        }

        int fact(int place, int what) {
            int slot = Math.floorMod(written - 1 - place, KEPT_EVENTS);
            return what == 0 ? sort[slot] : what == 1 ? track[slot] : frame[slot];
        }
    }

    /** Where the cells of a panel lie, and which lie around each. */
    private static final class Grid {
        int wide;
        int high;
        int cells;
        final int[] column = new int[MOST_CELLS];
        final int[] row = new int[MOST_CELLS];
        final int[] aroundCount = new int[MOST_CELLS];
        final int[] around = new int[MOST_CELLS * MOST_AROUND];

        void lay(int newWide, int newHigh) {
            wide = newWide;
            high = newHigh;
            cells = wide * high;
            for (int y = 0; y < high; y++) {
                for (int x = 0; x < wide; x++) {
                    column[wide * y + x] = x;
                    row[wide * y + x] = y;
                    listAround(x, y);
                }
            }
        }

        private void listAround(int x, int y) {
            int cell = wide * y + x;
            int found = 0;
            for (int nextY = Math.max(0, y - 1); nextY <= Math.min(high - 1, y + 1); nextY++) {
                for (int nextX = Math.max(0, x - 1); nextX <= Math.min(wide - 1, x + 1); nextX++) {
                    if (nextX != x || nextY != y) {
                        around[MOST_AROUND * cell + found] = wide * nextY + nextX;
                        found++;
                    }
                }
            }
            aroundCount[cell] = found;
        }

        int neighbour(int cell, int index) {
            return around[MOST_AROUND * cell + index];
        }

        /** Whether the cell or a neighbour of it is marked. */
        boolean meets(int cell, boolean[] marked) {
            if (marked[cell]) {
                return true;
            }
            for (int i = 0; i < aroundCount[cell]; i++) {
                if (marked[neighbour(cell, i)]) {
                    return true;
                }
            }
            return false;
        }
    }

    /** The three drives with their noise, and the seed that it is drawn from. */
    private static final class Drives {
        final int[] level = new int[DRIVES];
        int active;
        int seed;

        void renew() {
            Arrays.fill(level, 0);
            active = 0;
            seed = FIRST_SEED;
        }

        void activateNext() {
            active = active < DRIVES - 1 ? active + 1 : 0;
        }

        int activeLevel() {
            return level[active];
        }

        int drawNoise(int loudest) {
            return drawBelow(2 * loudest + 1) - loudest;
        }

        private int drawBelow(int n) {
            seed = (int) ((1103515245L * seed + 12345L) % 2147483648L);
            return n > 0 ? (seed / 65536) % n : 0;
        }
    }

    /** What each cell senses. */
    private static final class Surface {
        final Grid grid;
        final int[] background = new int[MOST_CELLS];
        final int[] baseline = new int[MOST_CELLS];
        final int[] sensed = new int[MOST_CELLS];
        final int[] raw = new int[MOST_CELLS];
        final int[] delta = new int[MOST_CELLS];
        final boolean[] touched = new boolean[MOST_CELLS];

        Surface(Grid grid) {
            this.grid = grid;
        }

        void renew() {
            Arrays.fill(background, FIRST_BACKGROUND);
            Arrays.fill(baseline, FIRST_BACKGROUND);
            Arrays.fill(sensed, 0);
            Arrays.fill(raw, 0);
            Arrays.fill(delta, 0);
        }

        void feel(Hand hand) {
            for (int cell = 0; cell < grid.cells; cell++) {
                sensed[cell] = hand.sensedAt(grid.column[cell], grid.row[cell]);
            }
        }

        int addToBackgrounds(int by) {
            int changed = 0;
            for (int cell = 0; cell < grid.cells; cell++) {
                int warmer = Math.max(0, Math.min(MOST_BACKGROUND, background[cell] + by));
                if (warmer != background[cell]) {
                    background[cell] = warmer;
                    changed++;
                }
            }
            return changed;
        }

        int baselinesToBackgrounds() {
            int changed = 0;
            for (int cell = 0; cell < grid.cells; cell++) {
                if (baseline[cell] != background[cell]) {
                    baseline[cell] = background[cell];
                    changed++;
                }
            }
            return changed;
        }

        void sense(Drives drives, int touchThreshold) {
            int loudest = drives.activeLevel();
            for (int cell = 0; cell < grid.cells; cell++) {
                int disturbance = loudest > 0 ? drives.drawNoise(loudest) : 0;
                raw[cell] = background[cell] + sensed[cell] + disturbance;
                delta[cell] = raw[cell] - baseline[cell];
                touched[cell] = delta[cell] >= touchThreshold;
            }
        }

        /** The range of the deltas far from any touch. */
        int quietSpread() {
            boolean found = false;
            int least = 0;
            int most = 0;
            for (int cell = 0; cell < grid.cells; cell++) {
                if (!grid.meets(cell, touched)) {
                    least = found ? Math.min(least, delta[cell]) : delta[cell];
                    most = found ? Math.max(most, delta[cell]) : delta[cell];
                    found = true;
                }
            }
            return most - least;
        }

        void driftBaselines(boolean[] inSpot, int drift) {
            for (int cell = 0; cell < grid.cells; cell++) {
                if (!grid.meets(cell, inSpot)) {
                    int gap = raw[cell] - baseline[cell];
                    baseline[cell] += Math.max(-drift, Math.min(drift, gap));
                }
            }
        }
    }

    /** The hills of touched cells, as a watershed divides them and low valleys join them. */
    private static final class Hills {
        // Two peaks are never neighbours, so 8 by 8 cells have at most one in every 2 by 2.
        static final int MOST = 16;

        final Grid grid;
        // In ascending order; a merged hill keeps the place of the peak that it keeps.
        final int[] peak = new int[MOST];
        final boolean[] alive = new boolean[MOST];
        final int[] hillOf = new int[MOST_CELLS];
        int size;
        private final int[] uphill = new int[MOST_CELLS];
        private final int[] pass = new int[MOST * MOST];

        Hills(Grid grid) {
            this.grid = grid;
        }

        void form(Surface surface, int valleyPercentage) {
            findPeaks(surface);
            gatherCells(surface.touched);
            findPasses(surface.delta);
            for (int merges = 0; merges < MOST; merges++) {
                if (!mergeBestPair(surface.delta, valleyPercentage)) {
                    return;
                }
            }
        }

        private void findPeaks(Surface surface) {
            size = 0;
            for (int cell = 0; cell < grid.cells; cell++) {
                hillOf[cell] = NONE;
                if (surface.touched[cell]) {
                    uphill[cell] = steepest(cell, surface.delta);
                    if (uphill[cell] == cell && size < MOST) {
                        peak[size] = cell;
                        alive[size] = true;
                        hillOf[cell] = size;
                        size++;
                    }
                }
            }
        }

        private int steepest(int cell, int[] delta) {
            int best = cell;
            for (int i = 0; i < grid.aroundCount[cell]; i++) {
                int next = grid.neighbour(cell, i);
                if (delta[next] > delta[best] || delta[next] == delta[best] && next < best) {
                    best = next;
                }
            }
            return best;
        }

        private void gatherCells(boolean[] touched) {
            for (int cell = 0; cell < grid.cells; cell++) {
                if (touched[cell]) {
                    int place = cell;
                    for (int steps = 0; steps < MOST_CELLS && hillOf[place] == NONE; steps++) {
                        place = uphill[place];
                    }
                    hillOf[cell] = hillOf[place];
                }
            }
        }

        private void findPasses(int[] delta) {
            Arrays.fill(pass, NONE);
            for (int cell = 0; cell < grid.cells; cell++) {
                if (hillOf[cell] != NONE) {
                    for (int i = 0; i < grid.aroundCount[cell]; i++) {
                        int next = grid.neighbour(cell, i);
                        if (hillOf[next] != NONE) {
                            raisePass(hillOf[cell], hillOf[next], Math.min(delta[cell], delta[next]));
                        }
                    }
                }
            }
        }

        private void raisePass(int one, int other, int height) {
            int place = MOST * one + other;
            pass[place] = Math.max(pass[place], height);
        }

        /** Answers false if no two hills can be merged. */
        private boolean mergeBestPair(int[] delta, int valleyPercentage) {
            int highest = NONE;
            int bestLow = NONE;
            int bestHigh = NONE;
            for (int low = 0; low < size; low++) {
                for (int high = low + 1; high < size; high++) {
                    int height = pass[MOST * low + high];
                    if (height > highest && canMerge(low, high, delta, valleyPercentage)) {
                        highest = height;
                        bestLow = low;
                        bestHigh = high;
                    }
                }
            }
            if (bestLow == NONE) {
                return false;
            }
            if (delta[peak[bestLow]] >= delta[peak[bestHigh]]) {
                merge(bestLow, bestHigh);
            } else {
                merge(bestHigh, bestLow);
            }
            return true;
        }

        private boolean canMerge(int low, int high, int[] delta, int valleyPercentage) {
            int height = pass[MOST * low + high];
            int lesserPeak = Math.min(delta[peak[low]], delta[peak[high]]);
            return alive[low] && alive[high] && height != NONE && 100 * height >= valleyPercentage * lesserPeak;
        }

        private void merge(int kept, int gone) {
            alive[gone] = false;
            for (int hill = 0; hill < size; hill++) {
                int height = pass[MOST * gone + hill];
                raisePass(kept, hill, height);
                raisePass(hill, kept, height);
            }
            for (int cell = 0; cell < grid.cells; cell++) {
                if (hillOf[cell] == gone) {
                    hillOf[cell] = kept;
                }
            }
        }
    }

    /** The spots of the latest frame; a row holds the properties in the order that spot() numbers them. */
    private static final class Spots {
        static final int PEAK = 0, SIZE = 1, MASS = 2, X = 3, Y = 4, TRACK = 5;

        final Grid grid;
        final int[][] row = new int[MOST_SPOTS][SPOT_FACTS];
        final int[] spotOf = new int[MOST_CELLS];
        final boolean[] inSpot = new boolean[MOST_CELLS];
        int size;
        private final boolean[] chosen = new boolean[Hills.MOST];
        private final int[] spotOfHill = new int[Hills.MOST];
        private final int[] cellsOf = new int[Hills.MOST];
        private final int[] massOf = new int[Hills.MOST];
        private final int[] columnsOf = new int[Hills.MOST];
        private final int[] rowsOf = new int[Hills.MOST];

        Spots(Grid grid) {
            this.grid = grid;
        }

        void clear() {
            size = 0;
            Arrays.fill(spotOf, NONE);
        }

        void choose(Hills hills, int[] delta, int minimumPeak) {
            weigh(hills, delta);
            int found = 0;
            for (int hill = 0; hill < hills.size; hill++) {
                chosen[hill] = hills.alive[hill] && delta[hills.peak[hill]] >= minimumPeak;
                if (chosen[hill]) {
                    found++;
                }
            }
            for (int left = found; left > MOST_SPOTS; left--) {
                dropLightest(hills.size);
            }
            numberHills(hills);
            markCells(hills.hillOf);
        }

        private void weigh(Hills hills, int[] delta) {
            for (int hill = 0; hill < hills.size; hill++) {
                cellsOf[hill] = 0;
                massOf[hill] = 0;
                columnsOf[hill] = 0;
                rowsOf[hill] = 0;
            }
            for (int cell = 0; cell < grid.cells; cell++) {
                int hill = hills.hillOf[cell];
                if (hill != NONE) {
                    cellsOf[hill]++;
                    massOf[hill] += delta[cell];
                    columnsOf[hill] += POSITION_SCALE * grid.column[cell] * delta[cell];
                    rowsOf[hill] += POSITION_SCALE * grid.row[cell] * delta[cell];
                }
            }
        }

        /** Of equal masses the last goes, which has the highest peak. */
        private void dropLightest(int hillCount) {
            int lightest = NONE;
            for (int hill = 0; hill < hillCount; hill++) {
                if (chosen[hill] && (lightest == NONE || massOf[hill] <= massOf[lightest])) {
                    lightest = hill;
                }
            }
            if (lightest != NONE) {
                chosen[lightest] = false;
            }
        }

        private void numberHills(Hills hills) {
            size = 0;
            for (int hill = 0; hill < hills.size; hill++) {
                spotOfHill[hill] = NONE;
                if (chosen[hill] && size < MOST_SPOTS) {
                    spotOfHill[hill] = size;
                    fillRow(row[size], hill, hills.peak[hill]);
                    size++;
                }
            }
        }

        private void fillRow(int[] facts, int hill, int peak) {
            int mass = massOf[hill];
            facts[PEAK] = peak;
            facts[SIZE] = cellsOf[hill];
            facts[MASS] = mass;
            facts[X] = mass > 0 ? columnsOf[hill] / mass : 0;
            facts[Y] = mass > 0 ? rowsOf[hill] / mass : 0;
            facts[TRACK] = NONE;
        }

        private void markCells(int[] hillOf) {
            for (int cell = 0; cell < grid.cells; cell++) {
                spotOf[cell] = hillOf[cell] == NONE ? NONE : spotOfHill[hillOf[cell]];
                inSpot[cell] = spotOf[cell] != NONE;
            }
        }
    }

    /** Finds the best way to pair tracks and spots, by the best completion for each set of used spots. */
    private static final class Pairing {
        private static final int SPOT_SETS = 64;
        // Above the squares of any six pairs, so that one pair more always wins.
        private static final int PAIR_WORTH = 1000000;

        // NONE for a track that stays without a spot.
        final int[] spotFor = new int[MOST_TRACKS];
        private final int[] worth = new int[MOST_TRACKS * MOST_SPOTS];
        private final int[] best = new int[(MOST_TRACKS + 1) * SPOT_SETS];
        private int spotCount;

        void solve(Tracks tracks, Spots spots, int reach) {
            spotCount = spots.size;
            weighPairs(tracks, spots, reach);
            int sets = 1 << spotCount;
            for (int used = 0; used < sets; used++) {
                best[SPOT_SETS * tracks.size + used] = 0;
            }
            for (int track = tracks.size - 1; track >= 0; track--) {
                for (int used = 0; used < sets; used++) {
                    best[SPOT_SETS * track + used] = worthOf(track, used, bestSpot(track, used));
                }
            }
            int used = 0;
            for (int track = 0; track < tracks.size; track++) {
                int spot = bestSpot(track, used);
                spotFor[track] = spot;
                used = withSpot(used, spot);
            }
        }

        private void weighPairs(Tracks tracks, Spots spots, int reach) {
            for (int track = 0; track < tracks.size; track++) {
                for (int spot = 0; spot < spotCount; spot++) {
                    int across = Math.abs(tracks.row[track][Tracks.X] - spots.row[spot][Spots.X]);
                    int down = Math.abs(tracks.row[track][Tracks.Y] - spots.row[spot][Spots.Y]);
                    boolean near = across <= reach && down <= reach;
                    worth[MOST_SPOTS * track + spot] = near ? PAIR_WORTH - across * across - down * down : NONE;
                }
            }
        }

        /** Of equal ways the lowest spot, and no spot at all only if that is better than every spot. */
        private int bestSpot(int track, int used) {
            int choice = NONE;
            int most = NONE;
            for (int spot = 0; spot < spotCount; spot++) {
                boolean free = (used >> spot & 1) == 0;
                if (free && worth[MOST_SPOTS * track + spot] != NONE) {
                    int total = worthOf(track, used, spot);
                    if (total > most) {
                        most = total;
                        choice = spot;
                    }
                }
            }
            return worthOf(track, used, NONE) > most ? NONE : choice;
        }

        private int worthOf(int track, int used, int spot) {
            int rest = best[SPOT_SETS * (track + 1) + withSpot(used, spot)];
            return spot == NONE ? rest : worth[MOST_SPOTS * track + spot] + rest;
        }

        private static int withSpot(int used, int spot) {
            return spot == NONE ? used : used | 1 << spot;
        }
    }

    /** The tracks, by ascending identifiers; a row holds the properties in the order that track() numbers them. */
    private static final class Tracks {
        static final int ID = 0, X = 1, Y = 2, SIZE = 3, MASS = 4, AGE = 5, MISSED = 6, PATH = 7, PALM = 8;

        final int[][] row = new int[MOST_TRACKS][TRACK_FACTS];
        int size;
        int begunEver;
        private final int[] settings;
        private final Journal journal;

        Tracks(int[] settings, Journal journal) {
            this.settings = settings;
            this.journal = journal;
        }

        void follow(Spots spots, int[] spotFor, int frame) {
            int kept = 0;
            for (int track = 0; track < size; track++) {
                int[] facts = row[track];
                int spot = spotFor[track];
                boolean stays = true;
                if (spot == NONE) {
                    stays = miss(facts, frame);
                } else {
                    move(facts, spots.row[spot], frame);
                }
                if (stays) {
                    row[track] = row[kept];
                    row[kept] = facts;
                    kept++;
                }
            }
            size = kept;
        }

        private void move(int[] facts, int[] spot, int frame) {
            facts[PATH] += Math.abs(spot[Spots.X] - facts[X]) + Math.abs(spot[Spots.Y] - facts[Y]);
            takeOver(facts, spot);
            facts[AGE]++;
            facts[MISSED] = 0;
            if (facts[PALM] == 0 && isPalm(spot)) {
                facts[PALM] = 1;
                if (facts[AGE] > DOWN_AGE) {
                    journal.write(CALLED_OFF, facts[ID], frame);
                }
            }
            if (facts[AGE] == DOWN_AGE && facts[PALM] == 0) {
                journal.write(DOWN, facts[ID], frame);
            }
        }

        /** Answers whether the track stays. */
        private boolean miss(int[] facts, int frame) {
            facts[MISSED]++;
            if (facts[MISSED] <= settings[HOLD]) {
                return true;
            }
            if (facts[PALM] == 0 && facts[AGE] >= DOWN_AGE) {
                boolean tap = facts[AGE] <= settings[TAP_TIME] && facts[PATH] <= MOST_TAP_PATH;
                journal.write(tap ? TAP : UP, facts[ID], frame);
            }
            return false;
        }

        void beginNew(Spots spots) {
            for (int spot = 0; spot < spots.size; spot++) {
                if (spots.row[spot][Spots.TRACK] == NONE && size < MOST_TRACKS) {
                    begin(row[size], spots.row[spot]);
                    size++;
                }
            }
        }

        private void begin(int[] facts, int[] spot) {
            begunEver++;
            facts[ID] = begunEver;
            takeOver(facts, spot);
            facts[AGE] = 1;
            facts[MISSED] = 0;
            facts[PATH] = 0;
            facts[PALM] = isPalm(spot) ? 1 : 0;
        }

        private void takeOver(int[] facts, int[] spot) {
            facts[X] = spot[Spots.X];
            facts[Y] = spot[Spots.Y];
            facts[SIZE] = spot[Spots.SIZE];
            facts[MASS] = spot[Spots.MASS];
            spot[Spots.TRACK] = facts[ID];
        }

        private boolean isPalm(int[] spot) {
            return spot[Spots.SIZE] >= settings[PALM_SIZE];
        }
    }

    /** The panel and its controller. */
    private static final class Panel {
        final Grid grid = new Grid();
        final Hand hand = new Hand();
        final Drives drives = new Drives();
        final int[] settings = new int[SETTINGS];
        final Surface surface;
        final Spots spots;
        final Tracks tracks;
        boolean present;
        int framesEver;
        int noisyEver;
        private final Hills hills;
        private final Pairing pairing = new Pairing();
        private int spread;
        private boolean noisy;
        private int framesHere;

        Panel(Journal journal) {
            surface = new Surface(grid);
            hills = new Hills(grid);
            spots = new Spots(grid);
            tracks = new Tracks(settings, journal);
        }

        void renew(int wide, int high) {
            present = true;
            grid.lay(wide, high);
            hand.liftAll();
            drives.renew();
            System.arraycopy(FIRST_SETTING, 0, settings, 0, SETTINGS);
            surface.renew();
            spots.clear();
            tracks.size = 0;
            spread = 0;
            noisy = false;
            framesHere = 0;
        }

        boolean hasCell(int cell) {
            return present && within(cell, 0, grid.cells - 1);
        }

        boolean hasSpot(int spot) {
            return present && within(spot, 0, spots.size - 1);
        }

        boolean hasTrack(int track) {
            return present && within(track, 0, tracks.size - 1);
        }

        void runFrame() {
            framesHere++;
            framesEver++;
            surface.sense(drives, settings[TOUCH_THRESHOLD]);
            spread = surface.quietSpread();
            noisy = spread > settings[NOISE_THRESHOLD];
            if (noisy) {
                noisyEver++;
                drives.activateNext();
                spots.clear();
                return;
            }
            hills.form(surface, settings[VALLEY_PERCENTAGE]);
            spots.choose(hills, surface.delta, settings[MINIMUM_PEAK]);
            pairing.solve(tracks, spots, settings[REACH]);
            tracks.follow(spots, pairing.spotFor, framesHere);
            tracks.beginNew(spots);
            surface.driftBaselines(spots.inSpot, settings[DRIFT]);
        }

        int cellFact(int cell, int what) {
            switch (what) {
                case 0:
                    return surface.background[cell];
                case 1:
                    return surface.baseline[cell];
                case 2:
                    return surface.raw[cell];
                case 3:
                    return surface.delta[cell];
                case 4:
                    return spots.spotOf[cell];
                default:
                    return surface.sensed[cell];
            }
        }

        int fact(int what) {
            switch (what) {
                case 0:
                    return grid.wide;
                case 1:
                    return grid.high;
                case 2:
                    return drives.active;
                case 3:
                    return spread;
                case 4:
                    return noisy ? 1 : 0;
                case 5:
                    return spots.size;
                case 6:
                    return tracks.size;
                case 7:
                    return drives.seed;
                default:
                    return framesHere;
            }
        }
    }
}
