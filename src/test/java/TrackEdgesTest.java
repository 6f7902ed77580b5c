/** The boundary cases that steps 5 to 8 of A FRAME name, a test for each sentence. */
public final class TrackEdgesTest {
    private static final int NONE = Checks.NONE, UNKNOWN = Checks.UNKNOWN;
    private static final int MINIMUM_PEAK = 0, TOUCH = 1, PALM = 3, REACH = 4, HOLD = 5, TAP = 6, DRIFT = 7, NOISE = 8;
    private static final int DOWN = 1, UP = 2, CALLED_OFF = 3, TAPPED = 4;
    /** Nine cells of a panel 5 cells wide and 5 high that are not neighbours of one another. */
    private static final int[] NINE = {0, 2, 4, 10, 12, 14, 20, 22, 24};

    public static void main(String[] args) {
        atMostSixTracks();
        reachInX();
        reachInY();
        reachInBoth();
        greatestReach();
        noneInTwoPairs();
        noTrackOrNoSpot();
        sixOfEach();
        mostPairs();
        pairsAfterATrackHasGone();
        smallestSumOfSquares();
        differencesOfXAndOfY();
        lexicographicallySmallest();
        withoutASpotComesLast();
        pathLength();
        pairedTrackGetsTheSpot();
        missedBecomesZero();
        missedIncreases();
        palmAtThePalmSize();
        palmForEver();
        calledOffAboveAgeTwo();
        downAtAgeTwo();
        noDownForAPalm();
        removedAboveTheHold();
        noEventForAPalm();
        noEventForAgeOne();
        tapTime();
        tapPath();
        eventsInOrderOfIdentifiers();
        newTracksInOrder();
        fewerThanSixTracks();
        identifiers();
        newTrack();
        palmFromTheFirst();
        driftAtMost();
        noDrift();
        driftBeyondTheBackgrounds();
        driftOfCellsInNoSpot();
        noDriftAtASpotWithoutTrack();
        Checks.end();
    }

    private static void step(int number, String words) {
        Checks.sentence("A FRAME " + number, words);
    }

    private static void due(String call, long got, long want) {
        Checks.due(call, got, want);
    }

    private static FeltGlass still(int wide, int high) {
        return Checks.still(wide, high);
    }

    private static void raise(FeltGlass x, int... cellsAndDeltas) {
        Checks.raise(x, cellsAndDeltas);
    }

    /** Lowers all cells to the first baseline. */
    private static void clear(FeltGlass x) {
        int cells = x.about(0) * x.about(1);
        for (int cell = 0; cell < cells; cell++) x.air(cell, 100);
    }

    /** Single cells with a delta of 50 and nothing else, then a frame; answers its events. */
    private static int touch(FeltGlass x, int... cells) {
        clear(x);
        for (int cell : cells) raise(x, cell, 50);
        return x.frames(1);
    }

    /** One spot at this X in the middle row of a panel 8 by 3, by the weights of two cells. */
    private static void putAtX(FeltGlass x, int place) {
        clear(x);
        raise(x, 8 + place / 16, 160 - 10 * (place % 16));
        if (place % 16 != 0) raise(x, 9 + place / 16, 10 * (place % 16));
    }

    /** One spot at this Y in the middle column of a panel 3 by 8. */
    private static void putAtY(FeltGlass x, int place) {
        clear(x);
        raise(x, 1 + 3 * (place / 16), 160 - 10 * (place % 16));
        if (place % 16 != 0) raise(x, 4 + 3 * (place / 16), 10 * (place % 16));
    }

    private static FeltGlass line(int wide, int high, int reach) {
        FeltGlass x = still(wide, high);
        x.bound(TOUCH, 10);
        x.bound(REACH, reach);
        return x;
    }

    // ---- A FRAME, step 5: assignment

    private static void atMostSixTracks() {
        step(5, "There are at most six tracks.");
        FeltGlass x = still(5, 5);
        x.bound(REACH, 1);
        x.bound(HOLD, 9);
        touch(x, 0, 2, 4, 10, 12);
        due("five", x.about(6), 5);
        touch(x, 0, 2, 4, 10, 12, 14);
        due("six", x.about(6), 6);
        touch(x, 20, 22, 24);
        due("six and three other spots", x.about(6), 6);
        due("three spots", x.about(5), 3);
        due("no seventh track", x.track(6, 0), UNKNOWN);
        due("tracks that have begun", x.count(3), 6);
    }

    private static void pairedAtX(int reach, int from, int to, boolean paired) {
        FeltGlass x = line(8, 3, reach);
        putAtX(x, from);
        x.frames(1);
        due("X before", x.spot(0, 3), from);
        putAtX(x, to);
        x.frames(1);
        due("X", x.spot(0, 3), to);
        due("track of X from " + from + " to " + to + " with " + reach, x.spot(0, 5), paired ? 1 : 2);
    }

    private static void reachInX() {
        step(5, "A track and a spot can be paired if their X differ by at most the reach");
        for (int reach : new int[] {1, 2, 23, 24, 25, 64, 111}) {
            pairedAtX(reach, 0, reach, true);
            pairedAtX(reach, 0, reach + 1, false);
            pairedAtX(reach, 112, 112 - reach, true);
            pairedAtX(reach, 112, 112 - reach - 1, false);
        }
    }

    private static void pairedAtY(int reach, int from, int to, boolean paired) {
        FeltGlass x = line(3, 8, reach);
        putAtY(x, from);
        x.frames(1);
        due("Y before", x.spot(0, 4), from);
        putAtY(x, to);
        x.frames(1);
        due("Y", x.spot(0, 4), to);
        due("track of Y from " + from + " to " + to + " with " + reach, x.spot(0, 5), paired ? 1 : 2);
    }

    private static void reachInY() {
        step(5, "and their Y, too");
        for (int reach : new int[] {1, 2, 23, 24, 25, 64, 111}) {
            pairedAtY(reach, 0, reach, true);
            pairedAtY(reach, 0, reach + 1, false);
            pairedAtY(reach, 112, 112 - reach, true);
            pairedAtY(reach, 112, 112 - reach - 1, false);
        }
    }

    private static void reachInBoth() {
        step(5, "A track and a spot can be paired if their X differ by at most the reach, and their Y, too.");
        int[] cells = {27, 28, 35, 36, 37, 44, 45, 20, 18, 9, 34};
        boolean[] paired = {true, true, true, true, false, false, false, true, true, false, true};
        for (int i = 0; i < cells.length; i++) {
            FeltGlass x = still(8, 8);
            x.bound(REACH, 16);
            touch(x, 27);
            touch(x, cells[i]);
            due("track from 27 to " + cells[i], x.spot(0, 5), paired[i] ? 1 : 2);
        }
    }

    private static void greatestReach() {
        step(5, "their X differ by at most the reach, and their Y, too");
        for (int reach = 111; reach <= 127; reach++) {
            FeltGlass x = still(8, 8);
            x.bound(REACH, reach);
            touch(x, 0);
            touch(x, 63);
            due("from corner to corner with " + reach, x.spot(0, 5), reach >= 112 ? 1 : 2);
        }
    }

    private static void noneInTwoPairs() {
        step(5, "No track and no spot is in two pairs.");
        FeltGlass x = still(8, 3);
        x.bound(REACH, 127);
        touch(x, 8, 12);
        touch(x, 10);
        due("one spot for two tracks", x.spot(0, 5), 1);
        due("the other one misses it", x.track(1, 6), 1);
        due("no new track", x.about(6), 2);
        x = still(8, 3);
        x.bound(REACH, 127);
        touch(x, 10);
        touch(x, 8, 12);
        due("two spots for one track", x.spot(0, 5), 1);
        due("a new track for the other one", x.spot(1, 5), 2);
        due("age of the first", x.track(0, 5), 2);
        due("age of the second", x.track(1, 5), 1);
    }

    private static void noTrackOrNoSpot() {
        step(5, "No track and no spot is in two pairs.");
        FeltGlass x = still(8, 3);
        due("neither", x.frames(1), 0);
        due("no track", x.about(6), 0);
        touch(x, 8, 12, 15);
        due("spots without tracks", x.about(6), 3);
        for (int spot = 0; spot < 3; spot++) due("new", x.spot(spot, 5), 1 + spot);
        touch(x);
        due("tracks without spots", x.about(6), 3);
        for (int track = 0; track < 3; track++) due("missed", x.track(track, 6), 1);
    }

    private static void sixOfEach() {
        step(5, "Of all ways to pair them, the one with the most pairs is taken");
        FeltGlass x = still(8, 3);
        x.bound(REACH, 127);
        touch(x, 0, 2, 4, 16, 18, 20);
        touch(x, 1, 3, 5, 17, 19, 21);
        for (int i = 0; i < 6; i++) {
            due("track of spot " + i, x.spot(i, 5), 1 + i);
            due("age of track " + i, x.track(i, 5), 2);
            due("path of track " + i, x.track(i, 7), 16);
        }
        touch(x, 7);
        due("six tracks, one spot: the nearest one", x.spot(0, 5), 3);
        int missed = 0;
        for (int i = 0; i < 6; i++) missed += x.track(i, 6);
        due("the others miss", missed, 5);
    }

    private static void mostPairs() {
        step(5, "Of all ways to pair them, the one with the most pairs is taken");
        FeltGlass x = still(8, 3);
        x.bound(REACH, 32);
        touch(x, 9, 11);
        touch(x, 11, 13);
        due("one could stay in its place, but two pairs are more", x.spot(0, 5), 1);
        due("the second", x.spot(1, 5), 2);
        due("two tracks", x.about(6), 2);
        x = still(8, 3);
        x.bound(REACH, 32);
        touch(x, 8, 10, 12);
        touch(x, 10, 12, 14);
        for (int i = 0; i < 3; i++) due("three pairs, all further", x.spot(i, 5), 1 + i);
        x = still(8, 3);
        x.bound(REACH, 31);
        touch(x, 8, 10, 12);
        touch(x, 10, 12, 14);
        due("two pairs at the most", x.spot(0, 5), 2);
        due("the third", x.spot(1, 5), 3);
        due("a new one", x.spot(2, 5), 4);
    }

    private static void pairsAfterATrackHasGone() {
        step(5, "Of all ways to pair them, the one with the most pairs is taken");
        FeltGlass x = still(8, 3);
        x.bound(REACH, 127);
        x.bound(HOLD, 0);
        touch(x, 8, 11);
        touch(x, 10);
        due("the nearer track", x.spot(0, 5), 2);
        due("the other one has gone", x.about(6), 1);
        touch(x, 12);
        due("what stays has the only spot, though it is further away", x.spot(0, 5), 2);
        touch(x, 8, 10, 12, 14);
        touch(x, 15);
        due("the last one of four", x.about(6), 1);
        due("goes on", x.track(0, 5), 2);
        touch(x, 8);
        due("and over the whole panel", x.track(0, 5), 3);
        due("path", x.track(0, 7), 128);
    }

    private static void smallestSumOfSquares() {
        step(5, "of several, the one with the smallest sum, over all pairs, of the squares of the differences of X and"
            + " of Y");
        // From (0, 4), (2, 4) to (6, 3), (4, 5): squares 17 + 17 against 37 + 5; without squares both are 10.
        FeltGlass x = still(8, 8);
        x.bound(REACH, 127);
        touch(x, 32, 34);
        touch(x, 30, 44);
        due("spot (6, 3)", x.spot(0, 5), 2);
        due("spot (4, 5)", x.spot(1, 5), 1);
        // The sum counts, not the nearest pair: from (2, 1), (4, 1) to (0, 1), (2, 1): 4 + 4 against 16 + 0.
        x = still(8, 3);
        x.bound(REACH, 127);
        touch(x, 10, 12);
        touch(x, 8, 10);
        due("spot (0, 1)", x.spot(0, 5), 1);
        due("spot (2, 1)", x.spot(1, 5), 2);
        // One sixteenth decides: the middle one, at 32, is 32 from 0 and 31 or 33 from the other.
        for (int other = 63; other <= 65; other++) {
            x = line(8, 3, 127);
            putAtX(x, 32);
            x.frames(1);
            putAtX(x, other);
            raise(x, 8, 50);
            x.frames(1);
            due("two spots", x.about(5), 2);
            due("the spot at 0 beside one at " + other, x.spot(0, 5), other == 63 ? 2 : 1);
        }
    }

    private static void differencesOfXAndOfY() {
        step(5, "of the squares of the differences of X and of Y");
        FeltGlass x = still(8, 8);
        x.bound(REACH, 127);
        // X alone would cross them: (3, 0), (4, 7) to (4, 0), (3, 7).
        touch(x, 3, 60);
        touch(x, 4, 59);
        due("near in Y", x.spot(0, 5), 1);
        // Y alone would cross them: (0, 3), (7, 4) to (7, 3), (0, 4).
        x = still(8, 8);
        x.bound(REACH, 127);
        touch(x, 24, 39);
        touch(x, 31, 32);
        due("near in X", x.spot(0, 5), 2);
        due("near in X", x.spot(1, 5), 1);
    }

    private static void lexicographicallySmallest() {
        step(5, "of several, the lexicographically smallest one, where the tracks are compared by ascending"
            + " identifiers, by the numbers of their spots");
        FeltGlass x = still(8, 3);
        x.bound(REACH, 32);
        touch(x, 11);
        touch(x, 9, 13);
        due("the lower spot", x.spot(0, 5), 1);
        due("the higher spot", x.spot(1, 5), 2);
        // (0, 0), (2, 2) to (2, 0), (0, 2): all differences are equal.
        x = still(5, 5);
        x.bound(REACH, 127);
        touch(x, 0, 12);
        touch(x, 2, 10);
        due("the lower track has the lower spot", x.spot(0, 5), 1);
        due("the higher track has the higher spot", x.spot(1, 5), 2);
        // The same the other way round, where the track on the left is the higher one.
        x = still(5, 5);
        x.bound(REACH, 127);
        touch(x, 2, 10);
        touch(x, 0, 12);
        due("the lower track has the lower spot again", x.spot(0, 5), 1);
        due("the higher track has the higher spot again", x.spot(1, 5), 2);
    }

    private static void withoutASpotComesLast() {
        step(5, "and a track without a spot comes after all spots");
        FeltGlass x = still(8, 3);
        x.bound(REACH, 16);
        touch(x, 9, 11);
        touch(x, 10);
        due("the lower track has the spot", x.spot(0, 5), 1);
        due("the higher track has none", x.track(1, 6), 1);
        x = still(8, 3);
        x.bound(REACH, 16);
        touch(x, 9, 11, 13);
        touch(x, 10, 12);
        due("the first track", x.spot(0, 5), 1);
        due("the second track", x.spot(1, 5), 2);
        due("the third one has none", x.track(2, 6), 1);
    }

    // ---- A FRAME, step 6: tracks

    private static void pathLength() {
        step(6, "its path length increases by the absolute differences of X and of Y");
        FeltGlass x = still(8, 8);
        x.bound(REACH, 127);
        touch(x, 0);
        due("0 at first", x.track(0, 7), 0);
        touch(x, 0);
        due("nothing without a move", x.track(0, 7), 0);
        touch(x, 63);
        due("there", x.track(0, 7), 224);
        touch(x, 0);
        due("and back", x.track(0, 7), 448);
        touch(x, 7);
        due("in X", x.track(0, 7), 560);
    }

    private static void pairedTrackGetsTheSpot() {
        step(6, "it gets the X, Y, size and mass of the spot; its age increases by 1");
        FeltGlass x = still(8, 3);
        touch(x, 9);
        clear(x);
        raise(x, 10, 70, 18, 30);
        x.frames(1);
        int[] facts = {1, 32, 20, 2, 100, 2, 0, 20, 0};
        for (int what = 0; what <= 8; what++) due("track(0, " + what + ")", x.track(0, what), facts[what]);
        clear(x);
        x.frames(1);
        int[] missed = {1, 32, 20, 2, 100, 2, 1, 20, 0};
        for (int what = 0; what <= 8; what++) due("missed, track(0, " + what + ")", x.track(0, what), missed[what]);
    }

    private static void missedBecomesZero() {
        step(6, "its number of missed frames becomes 0");
        FeltGlass x = still(3, 3);
        x.bound(HOLD, 2);
        touch(x, 4);
        for (int round = 0; round < 3; round++) {
            touch(x);
            due("one", x.track(0, 6), 1);
            touch(x);
            due("two", x.track(0, 6), 2);
            touch(x, 4);
            due("none again", x.track(0, 6), 0);
            due("age", x.track(0, 5), 2 + round);
        }
        due("the same track", x.track(0, 0), 1);
    }

    private static void missedIncreases() {
        step(6, "its number of missed frames increases by 1");
        FeltGlass x = still(3, 3);
        x.bound(HOLD, 9);
        touch(x, 4);
        due("none at first", x.track(0, 6), 0);
        for (int missed = 1; missed <= 9; missed++) {
            touch(x);
            due("missed", x.track(0, 6), missed);
            due("the age stays", x.track(0, 5), 1);
            due("X stays", x.track(0, 1), 16);
        }
    }

    /** Raises the first so many cells, which form one spot. */
    private static FeltGlass raiseFirst(FeltGlass x, int cells) {
        for (int cell = 0; cell < cells; cell++) raise(x, cell, 50);
        return x;
    }

    private static void palmAtThePalmSize() {
        step(6, "If it is not a palm and the size is at least the palm size, it becomes a palm (for ever)");
        for (int palm : new int[] {2, 3, 10, 11, 63, 64}) {
            for (int size = palm - 1; size <= Math.min(64, palm + 1); size++) {
                FeltGlass x = still(8, 8);
                x.bound(REACH, 127);
                x.bound(PALM, palm);
                raise(x, 0, 50);
                x.frames(1);
                due("no palm at first", x.track(0, 8), 0);
                raiseFirst(x, size);
                x.frames(1);
                due("size", x.track(0, 3), size);
                due("palm with " + size + " of " + palm, x.track(0, 8), size >= palm ? 1 : 0);
            }
        }
    }

    private static void palmForEver() {
        step(6, "it becomes a palm (for ever)");
        FeltGlass x = still(8, 3);
        x.bound(PALM, 2);
        raise(x, 9, 50);
        x.frames(2);
        raise(x, 10, 30);
        due("called off", x.frames(1), 1);
        raise(x, 10, 0);
        x.bound(PALM, 64);
        due("small again", x.frames(20), 0);
        due("still a palm", x.track(0, 8), 1);
        x.bound(PALM, 2);
        raise(x, 10, 30);
        due("called off only once", x.frames(20), 0);
        clear(x);
        due("and gone without event", x.frames(3), 0);
        due("no track", x.about(6), 0);
        due("called off", x.events(CALLED_OFF), 1);
    }

    private static void calledOffAboveAgeTwo() {
        step(6, "and there is an event 3 (called off) if its age is above 2 now");
        for (int before = 1; before <= 4; before++) {
            FeltGlass x = still(8, 3);
            x.bound(PALM, 2);
            raise(x, 9, 50);
            x.frames(before);
            raise(x, 10, 30);
            due("events when the age becomes " + (before + 1), x.frames(1), before >= 2 ? 1 : 0);
            due("age", x.track(0, 5), before + 1);
            due("palm", x.track(0, 8), 1);
            due("called off", x.events(CALLED_OFF), before >= 2 ? 1 : 0);
            due("down", x.events(DOWN), before >= 2 ? 1 : 0);
        }
    }

    private static void downAtAgeTwo() {
        step(6, "If its age is 2 now and it is not a palm, there is an event 1 (down).");
        FeltGlass x = still(3, 3);
        due("age 1", touch(x, 4), 0);
        due("missed", touch(x), 0);
        due("age 2", touch(x, 4), 1);
        due("sort", x.event(0, 0), DOWN);
        due("track", x.event(0, 1), 1);
        due("frame", x.event(0, 2), 3);
        due("age 3", touch(x, 4), 0);
        due("age 4 to 23", x.frames(20), 0);
    }

    private static void noDownForAPalm() {
        step(6, "If its age is 2 now and it is not a palm, there is an event 1 (down).");
        FeltGlass x = still(3, 3);
        x.bound(PALM, 2);
        raise(x, 4, 50, 5, 30);
        due("a palm from its first frame on", x.frames(20), 0);
        x = still(3, 3);
        x.bound(PALM, 2);
        raise(x, 4, 50);
        x.frames(1);
        raise(x, 5, 30);
        due("a palm from its second frame on", x.frames(20), 0);
        due("age", x.track(0, 5), 21);
    }

    private static void removedAboveTheHold() {
        step(6, "if this is above the hold, the track is removed");
        for (int hold = 0; hold <= 9; hold++) {
            FeltGlass x = still(3, 3);
            x.bound(HOLD, hold);
            touch(x, 4);
            touch(x, 4);
            for (int missed = 1; missed <= hold; missed++) {
                due("no event", touch(x), 0);
                due("missed with a hold of " + hold, x.track(0, 6), missed);
            }
            due("removed with a hold of " + hold, touch(x), 1);
            due("no track", x.about(6), 0);
            due("no track", x.track(0, 0), UNKNOWN);
        }
        FeltGlass x = still(3, 3);
        touch(x, 4);
        touch(x);
        due("one frame is held at first", x.about(6), 1);
        touch(x);
        due("a second one is not", x.about(6), 0);
    }

    private static void noEventForAPalm() {
        step(6, "and if it is not a palm and its age is above 1");
        FeltGlass x = still(3, 3);
        x.bound(PALM, 2);
        x.bound(HOLD, 0);
        raise(x, 4, 50, 5, 30);
        x.frames(3);
        due("a palm is removed", touch(x), 0);
        due("no track", x.about(6), 0);
        due("no event", x.event(0, 0), UNKNOWN);
    }

    private static void noEventForAgeOne() {
        step(6, "and if it is not a palm and its age is above 1");
        for (int age = 1; age <= 3; age++) {
            FeltGlass x = still(3, 3);
            x.bound(HOLD, 0);
            raise(x, 4, 50);
            x.frames(age);
            due("removed at age " + age, touch(x), age > 1 ? 1 : 0);
            due("no track", x.about(6), 0);
        }
    }

    private static void tapTime() {
        step(6, "there is an event 4 (tap) if its age is at most the tap time and its path length is at most 16, and"
            + " otherwise an event 2 (up)");
        for (int time : new int[] {1, 2, 3, 6, 29, 30}) {
            for (int age = Math.max(2, time - 1); age <= time + 1; age++) {
                FeltGlass x = still(3, 3);
                x.bound(HOLD, 0);
                x.bound(TAP, time);
                raise(x, 4, 50);
                for (int frame = 0; frame < age; frame++) x.frames(1);
                due("removed", touch(x), 1);
                due("sort at age " + age + " with tap time " + time, x.event(0, 0), age <= time ? TAPPED : UP);
            }
        }
        FeltGlass x = still(3, 3);
        x.bound(HOLD, 9);
        touch(x, 4);
        touch(x, 4);
        for (int frame = 0; frame < 10; frame++) touch(x);
        due("missed frames are no age", x.event(0, 0), TAPPED);
    }

    private static void tapPath() {
        step(6, "and its path length is at most 16");
        for (int path = 15; path <= 17; path++) {
            FeltGlass x = line(8, 3, 24);
            x.bound(HOLD, 0);
            putAtX(x, 16);
            x.frames(1);
            putAtX(x, 16 + path);
            x.frames(1);
            due("path", x.track(0, 7), path);
            due("removed", touch(x), 1);
            due("sort with a path of " + path, x.event(0, 0), path <= 16 ? TAPPED : UP);
        }
        // 8 there and 8 back; then 1 more.
        for (int more = 0; more <= 1; more++) {
            FeltGlass x = line(8, 3, 24);
            x.bound(HOLD, 0);
            for (int place : new int[] {16, 24, 16, 16 + more}) {
                putAtX(x, place);
                x.frames(1);
            }
            due("path", x.track(0, 7), 16 + more);
            touch(x);
            due("sort with a path of " + (16 + more), x.event(0, 0), more == 0 ? TAPPED : UP);
        }
        // 8 in X and 8 or 9 in Y.
        for (int down = 8; down <= 9; down++) {
            FeltGlass x = line(8, 3, 24);
            x.bound(HOLD, 0);
            touch(x, 0);
            clear(x);
            raise(x, 1, down == 8 ? 80 : 70, 8, 80, 9, down == 8 ? 0 : 10);
            x.frames(1);
            due("path in X and Y", x.track(0, 7), 8 + down);
            touch(x);
            due("sort with a path of 8 and " + down, x.event(0, 0), down == 8 ? TAPPED : UP);
        }
    }

    private static void eventsInOrderOfIdentifiers() {
        step(6, "Tracks, in ascending order of their identifiers.");
        FeltGlass x = still(5, 5);
        x.bound(HOLD, 0);
        touch(x, 0, 2, 4, 10, 12, 14);
        due("six downs", touch(x, 0, 2, 4, 10, 12, 14), 6);
        for (int place = 0; place < 6; place++) due("down at " + place, x.event(place, 1), 6 - place);
        touch(x, 2, 4, 10, 14, 24);
        touch(x, 2, 14, 24);
        // Tracks 3 and 4 were removed as 7 went down, 1 and 5 one frame before.
        int[] identifiers = {7, 4, 3, 5, 1}, sorts = {DOWN, TAPPED, TAPPED, TAPPED, TAPPED};
        for (int place = 0; place < 5; place++) {
            due("track at " + place, x.event(place, 1), identifiers[place]);
            due("sort at " + place, x.event(place, 0), sorts[place]);
        }
    }

    // ---- A FRAME, step 7: new tracks

    private static void newTracksInOrder() {
        step(7, "Each spot without a track, in order, gets a new track if there are fewer than six tracks");
        FeltGlass x = still(5, 5);
        x.bound(REACH, 1);
        touch(x, 12);
        touch(x, 24, 12, 4, 0);
        int[] tracks = {2, 3, 1, 4};
        for (int spot = 0; spot < 4; spot++) due("track of spot " + spot, x.spot(spot, 5), tracks[spot]);
        for (int track = 0; track < 4; track++) due("index " + track, x.track(track, 0), 1 + track);
    }

    private static void fewerThanSixTracks() {
        step(7, "gets a new track if there are fewer than six tracks");
        FeltGlass x = still(5, 5);
        x.bound(REACH, 1);
        x.bound(HOLD, 2);
        touch(x, 0, 2, 4, 10);
        touch(x, 0, 20, 22, 24);
        int[] tracks = {1, 5, 6, NONE};
        for (int spot = 0; spot < 4; spot++) due("track of spot " + spot, x.spot(spot, 5), tracks[spot]);
        due("six tracks", x.about(6), 6);
        touch(x, 0, 20, 22, 24);
        due("the last one has still none", x.spot(3, 5), NONE);
        touch(x, 0, 20, 22, 24);
        due("room in the frame in which tracks are removed", x.spot(3, 5), 7);
        due("four tracks", x.about(6), 4);
        due("tracks that have begun", x.count(3), 7);
    }

    private static void identifiers() {
        step(7, "(identifiers begin with 1, and none is used twice, also on later panels)");
        FeltGlass x = still(5, 5);
        x.bound(HOLD, 0);
        for (int round = 1; round <= 5; round++) {
            touch(x, 12);
            due("identifier", x.track(0, 0), round);
            touch(x);
            due("none", x.about(6), 0);
        }
        for (int panel = 1; panel <= 3; panel++) {
            x.glass(3, 3);
            raise(x, 4, 50);
            x.frames(1);
            due("identifier on a later panel", x.track(0, 0), 5 + panel);
        }
        due("tracks that have begun", x.count(3), 8);
        due("another object begins with 1 again", firstIdentifier(), 1);
    }

    private static int firstIdentifier() {
        FeltGlass x = still(3, 3);
        touch(x, 4);
        return x.track(0, 0);
    }

    private static void newTrack() {
        step(7, "with X, Y, size and mass of the spot, age 1, 0 missed frames and the path length 0");
        FeltGlass x = still(8, 3);
        x.bound(HOLD, 0);
        x.bound(PALM, 2);
        // A palm with a long path and missed frames was here before.
        raise(x, 9, 50, 10, 30);
        x.frames(2);
        clear(x);
        raise(x, 10, 50, 11, 30);
        x.frames(1);
        touch(x);
        touch(x, 15);
        int[] facts = {2, 112, 16, 1, 50, 1, 0, 0, 0};
        for (int what = 0; what <= 8; what++) due("track(0, " + what + ")", x.track(0, what), facts[what]);
    }

    private static void palmFromTheFirst() {
        step(7, "it is a palm if the size is at least the palm size");
        for (int palm : new int[] {2, 3, 10, 63, 64}) {
            for (int size = palm - 1; size <= Math.min(64, palm + 1); size++) {
                FeltGlass x = still(8, 8);
                x.bound(PALM, palm);
                raiseFirst(x, size);
                due("no event", x.frames(1), 0);
                due("size", x.track(0, 3), size);
                due("palm with " + size + " of " + palm, x.track(0, 8), size >= palm ? 1 : 0);
                due("down in the next frame", x.frames(1), size >= palm ? 0 : 1);
            }
        }
        FeltGlass x = still(8, 8);
        raiseFirst(x, 10).frames(1);
        due("ten at first", x.track(0, 8), 1);
    }

    // ---- A FRAME, step 8: baseline

    private static void driftAtMost() {
        step(8, "is moved towards the raw value of the cell, by at most the drift");
        for (int drift : new int[] {1, 2, 49, 50}) {
            for (int gap = drift - 1; gap <= drift + 1; gap++) {
                FeltGlass x = still(3, 3);
                x.bound(TOUCH, 100);
                x.bound(DRIFT, drift);
                raise(x, 0, gap, 8, -gap);
                x.frames(1);
                due("up by " + gap + " with " + drift, x.cell(0, 1), 100 + Math.min(gap, drift));
                due("down by " + gap + " with " + drift, x.cell(8, 1), 100 - Math.min(gap, drift));
                due("at the raw value", x.cell(4, 1), 100);
                x.frames(1);
                due("up at last", x.cell(0, 1), 100 + gap);
                due("down at last", x.cell(8, 1), 100 - gap);
                x.frames(1);
                due("no further up", x.cell(0, 1), 100 + gap);
                due("no further down", x.cell(8, 1), 100 - gap);
            }
        }
        FeltGlass x = Checks.panel(3, 3);
        raise(x, 0, 5);
        x.frames(1);
        due("2 at first", x.cell(0, 1), 102);
    }

    private static void noDrift() {
        step(8, "by at most the drift");
        FeltGlass x = still(3, 3);
        raise(x, 0, 19, 8, -100);
        x.frames(20);
        due("a drift of 0, up", x.cell(0, 1), 100);
        due("a drift of 0, down", x.cell(8, 1), 100);
        due("delta", x.cell(8, 3), -100);
    }

    private static void driftBeyondTheBackgrounds() {
        step(8, "is moved towards the raw value of the cell");
        FeltGlass x = Checks.panel(8, 8);
        x.bound(DRIFT, 50);
        x.air(0, 999);
        x.settle();
        Checks.reads(x, "0@0,0*15", 1);
        x.frames(1);
        due("a baseline above 999", x.cell(0, 1), 1014);
        x = Checks.panel(3, 3);
        x.bound(DRIFT, 50);
        x.bound(NOISE, 200);
        for (int cell = 0; cell < 9; cell++) x.air(cell, 0);
        x.settle();
        // The first number drawn from the seed 0 is 0.
        x.seed(0);
        x.noise(0, 9);
        x.frames(1);
        due("raw", x.cell(0, 2), -9);
        due("a baseline below 0", x.cell(0, 1), -9);
    }

    private static void driftOfCellsInNoSpot() {
        step(8, "The baseline of each cell that belongs to no spot and is not a neighbour of a cell that does");
        FeltGlass x = still(8, 3);
        x.bound(DRIFT, 2);
        raise(x, 8, 50, 9, 25, 10, 15, 11, 15, 14, 39);
        x.frames(1);
        int[] baselines = {100, 100, 100, 102, 100, 100, 102, 100};
        for (int i = 0; i < 8; i++) due("baseline of " + (8 + i), x.cell(8 + i, 1), baselines[i]);
        // Of nine spots three are too light to remain; their cells belong to no spot.
        x = still(5, 5);
        x.bound(DRIFT, 2);
        for (int i = 0; i < 9; i++) raise(x, NINE[i], 60 - i);
        x.frames(1);
        for (int i = 0; i < 9; i++) due("baseline of " + NINE[i], x.cell(NINE[i], 1), i < 6 ? 100 : 102);
        // A hill below the minimum peak belongs to none either, until the minimum falls.
        x = still(3, 3);
        x.bound(DRIFT, 1);
        raise(x, 4, 39);
        x.frames(1);
        due("below the minimum peak", x.cell(4, 1), 101);
        x.bound(MINIMUM_PEAK, 38);
        x.frames(1);
        due("at the minimum peak", x.cell(4, 1), 101);
    }

    private static void noDriftAtASpotWithoutTrack() {
        step(8, "The baseline of each cell that belongs to no spot");
        FeltGlass x = still(5, 5);
        x.bound(REACH, 1);
        x.bound(HOLD, 9);
        x.bound(DRIFT, 2);
        touch(x, 0, 2, 4, 10, 12, 14);
        touch(x, 22);
        due("a spot without a track", x.spot(0, 5), NONE);
        due("its baseline", x.cell(22, 1), 100);
    }
}
