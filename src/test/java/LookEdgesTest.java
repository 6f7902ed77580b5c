import java.math.BigInteger;

/** The boundary cases that promises 14 to 23 name, a test for each sentence. */
public final class LookEdgesTest {
    private static final int NONE = Checks.NONE, UNKNOWN = Checks.UNKNOWN;
    private static final int OUTSIDE = Checks.OUTSIDE, STATE = Checks.STATE;
    private static final int LOW = Integer.MIN_VALUE, TOP = Integer.MAX_VALUE;
    private static final int PALM = 3, REACH = 4, HOLD = 5, TAP = 6, DRIFT = 7, NOISE = 8;

    public static void main(String[] args) {
        fingerRange();
        fingerErrors();
        fingerOff();
        cellRange();
        cellWithoutFrame();
        cellSpotOrNone();
        cellDeltaBeforeTheMove();
        cellSensesNow();
        aboutRange();
        aboutWithoutFrame();
        aboutNoisy();
        aboutSpotsAndTracks();
        aboutFrames();
        spotRange();
        spotWithoutTrack();
        trackRange();
        trackOrder();
        trackPalm();
        asKinds();
        asPalmOrNot();
        asRange();
        eventPlaces();
        eventsOfAllPanels();
        eventFrames();
        eventLatestFirst();
        eventSorts();
        eventRange();
        countRange();
        countCharacters();
        countsOfAllPanels();
        eventsErrors();
        eventsRange();
        eventsEver();
        digestWithoutPanel();
        digestOfAPanel();
        digestOfEvents();
        digestOfThePage();
        digestOverflows();
        digestChangesNothing();
        Checks.end();
    }

    private static void sentence(int promise, String words) {
        Checks.sentence("Promise " + promise, words);
    }

    private static void due(String call, long got, long want) {
        Checks.due(call, got, want);
    }

    private static FeltGlass touchedPanel(int wide, int high, int cell) {
        FeltGlass x = Checks.still(wide, high);
        Checks.raise(x, cell, 50);
        return x;
    }

    // ---- Promise 14: finger

    private static void fingerRange() {
        sentence(14, "the finger, 0 to 4");
        FeltGlass x = Checks.panel(3, 3);
        Checks.reads(x, "0@1,2*10;4@3,4*250", 2);
        int[] first = {1, 1, 2, 10}, last = {1, 3, 4, 250};
        for (int what = 0; what <= 3; what++) {
            due("the first finger", x.finger(0, what), first[what]);
            due("the last finger", x.finger(4, what), last[what]);
            due("before the first", x.finger(-1, what), UNKNOWN);
            due("after the last", x.finger(5, what), UNKNOWN);
        }
    }

    private static void fingerErrors() {
        sentence(14, "STATE if there is no panel; UNKNOWN if there is no such finger; OUTSIDE if what is out of"
            + " range.");
        due("no panel", new FeltGlass().finger(0, 0), STATE);
        due("no panel, no finger", new FeltGlass().finger(5, 0), STATE);
        due("no panel, wrong what", new FeltGlass().finger(0, 4), STATE);
        FeltGlass x = Checks.panel(3, 3);
        for (int finger : new int[] {-1, 5, LOW, TOP, 256}) {
            for (int what : new int[] {0, 3, -1, 4}) due("finger " + finger, x.finger(finger, what), UNKNOWN);
        }
        for (int finger = 0; finger <= 4; finger++) {
            for (int what : new int[] {-1, 4, LOW, TOP}) due("what " + what, x.finger(finger, what), OUTSIDE);
        }
    }

    private static void fingerOff() {
        sentence(14, "(NONE for 1 to 3 if it is off)");
        FeltGlass x = Checks.panel(3, 3);
        for (int finger = 0; finger <= 4; finger++) {
            due("off at first", x.finger(finger, 0), 0);
            for (int what = 1; what <= 3; what++) due("off at first", x.finger(finger, what), NONE);
        }
        Checks.reads(x, "2@1,2*10", 1);
        due("on", x.finger(2, 0), 1);
        Checks.reads(x, "2-", 0);
        due("off again", x.finger(2, 0), 0);
        for (int what = 1; what <= 3; what++) due("off again", x.finger(2, what), NONE);
        Checks.reads(x, "2@0,0*10", 1);
        due("u of 0 is a value", x.finger(2, 1), 0);
    }

    // ---- Promise 15: cell

    private static void cellRange() {
        sentence(15, "UNKNOWN if there is no panel or no such cell; OUTSIDE if what is out of range.");
        due("no panel", new FeltGlass().cell(0, 0), UNKNOWN);
        due("no panel, wrong what", new FeltGlass().cell(0, 6), UNKNOWN);
        for (int[] size : new int[][] {{3, 3}, {8, 3}, {3, 8}, {8, 8}}) {
            FeltGlass x = Checks.panel(size[0], size[1]);
            int cells = size[0] * size[1];
            for (int cell : new int[] {-1, cells, LOW, TOP, 256, 65536}) {
                for (int what : new int[] {0, 4, 5, -1, 6}) due("cell " + cell, x.cell(cell, what), UNKNOWN);
            }
            for (int what : new int[] {-1, 6, LOW, TOP}) {
                due("the first cell, what " + what, x.cell(0, what), OUTSIDE);
                due("the last cell, what " + what, x.cell(cells - 1, what), OUTSIDE);
            }
            due("the first cell", x.cell(0, 5), 0);
            due("the last cell", x.cell(cells - 1, 0), 100);
        }
    }

    private static void cellWithoutFrame() {
        sentence(15, "(2 and 3: 0 if there was no frame on this panel)");
        FeltGlass x = touchedPanel(3, 3, 4);
        due("raw before a frame", x.cell(4, 2), 0);
        due("delta before a frame", x.cell(4, 3), 0);
        x.frames(1);
        due("raw", x.cell(4, 2), 150);
        due("delta", x.cell(4, 3), 50);
        due("raw of another cell", x.cell(0, 2), 100);
        x.air(4, 0);
        x.settle();
        due("raw in the latest frame", x.cell(4, 2), 150);
        due("delta in the latest frame", x.cell(4, 3), 50);
        x.glass(3, 3);
        for (int cell = 0; cell < 9; cell++) {
            due("raw on the next panel", x.cell(cell, 2), 0);
            due("delta on the next panel", x.cell(cell, 3), 0);
        }
    }

    private static void cellSpotOrNone() {
        sentence(15, "(NONE if to none, or there was no frame)");
        FeltGlass x = touchedPanel(5, 3, 5);
        Checks.raise(x, 7, 39, 9, 50);
        due("no frame", x.cell(5, 4), NONE);
        x.frames(1);
        due("the first spot", x.cell(5, 4), 0);
        due("touched, in no spot", x.cell(7, 4), NONE);
        due("not touched", x.cell(6, 4), NONE);
        due("the last spot", x.cell(9, 4), 1);
        Checks.raise(x, 5, 0);
        due("still of the latest frame", x.cell(5, 4), 0);
        x.frames(1);
        due("to none any more", x.cell(5, 4), NONE);
        due("the spot has another number", x.cell(9, 4), 0);
        x.glass(5, 3);
        due("no frame on the next panel", x.cell(9, 4), NONE);
    }

    private static void cellDeltaBeforeTheMove() {
        sentence(15, "3 its delta in the latest frame, before the baseline was moved");
        FeltGlass x = Checks.panel(3, 3);
        Checks.raise(x, 0, 15);
        x.bound(DRIFT, 50);
        x.frames(1);
        due("delta", x.cell(0, 3), 15);
        due("baseline", x.cell(0, 1), 115);
        x.frames(1);
        due("delta after the move", x.cell(0, 3), 0);
    }

    private static void cellSensesNow() {
        sentence(15, "5 what it senses of all fingers as they are now");
        FeltGlass x = Checks.panel(3, 3);
        due("no finger", x.cell(4, 5), 0);
        Checks.reads(x, "0@2,2*100", 1);
        due("before a frame", x.cell(4, 5), 100);
        x.frames(1);
        Checks.reads(x, "1@2,2*50", 2);
        due("both", x.cell(4, 5), 150);
        due("raw of the latest frame", x.cell(4, 2), 200);
        Checks.reads(x, "0-;1-", 0);
        due("none", x.cell(4, 5), 0);
        Checks.reads(x, "0@2,2*100", 1);
        x.glass(3, 3);
        due("none on the next panel", x.cell(4, 5), 0);
    }

    // ---- Promise 16: about

    private static void aboutRange() {
        sentence(16, "STATE if there is no panel; OUTSIDE if what is out of range.");
        for (int what : new int[] {0, 8, -1, 9}) due("no panel", new FeltGlass().about(what), STATE);
        FeltGlass x = Checks.panel(3, 8);
        for (int what : new int[] {-1, 9, LOW, TOP, 256}) due("about(" + what + ")", x.about(what), OUTSIDE);
        due("about(0)", x.about(0), 3);
        x.frames(7);
        due("about(8)", x.about(8), 7);
    }

    private static void aboutWithoutFrame() {
        sentence(16, "3 the spread in the latest frame (0 if there was no frame)");
        FeltGlass x = Checks.panel(3, 3);
        Checks.raise(x, 0, 31);
        x.bound(1, 100);
        due("no frame", x.about(3), 0);
        x.frames(1);
        due("spread", x.about(3), 31);
        Checks.raise(x, 0, 30);
        due("still of the latest frame", x.about(3), 31);
        x.frames(1);
        due("spread", x.about(3), 30);
        x.glass(3, 3);
        due("no frame on the next panel", x.about(3), 0);
    }

    private static void aboutNoisy() {
        sentence(16, "4 whether the latest frame was noisy (1 or 0)");
        FeltGlass x = Checks.panel(3, 3);
        Checks.raise(x, 0, 31);
        x.bound(1, 100);
        due("no frame", x.about(4), 0);
        x.frames(1);
        due("noisy", x.about(4), 1);
        Checks.raise(x, 0, 30);
        due("still of the latest frame", x.about(4), 1);
        x.frames(1);
        due("not noisy", x.about(4), 0);
        Checks.raise(x, 0, -31);
        x.frames(1);
        due("noisy again", x.about(4), 1);
        x.glass(3, 3);
        due("no frame on the next panel", x.about(4), 0);
    }

    private static void aboutSpotsAndTracks() {
        sentence(16, "5 the number of spots of the latest frame, 6 the number of tracks");
        FeltGlass x = touchedPanel(3, 3, 4);
        due("no spots before a frame", x.about(5), 0);
        due("no tracks before a frame", x.about(6), 0);
        x.frames(1);
        due("one spot", x.about(5), 1);
        due("one track", x.about(6), 1);
        Checks.raise(x, 4, 0);
        x.frames(1);
        due("no spot", x.about(5), 0);
        due("a track that is held", x.about(6), 1);
        x.frames(1);
        due("no track", x.about(6), 0);
        x = Busy.panel();
        due("six spots", x.about(5), 6);
        due("six tracks", x.about(6), 6);
        x = Busy.noisyPanel();
        due("no spots in a noisy frame", x.about(5), 0);
        due("six tracks in a noisy frame", x.about(6), 6);
    }

    private static void aboutFrames() {
        sentence(16, "8 the number of frames on this panel");
        FeltGlass x = Checks.panel(3, 3);
        due("none", x.about(8), 0);
        x.frames(20);
        x.frames(20);
        due("forty", x.about(8), 40);
        Checks.raise(x, 0, -31);
        x.frames(1);
        due("a noisy one is a frame too", x.about(8), 41);
        x.glass(3, 3);
        due("none on the next panel", x.about(8), 0);
    }

    // ---- Promise 17: spot

    private static void spotRange() {
        sentence(17, "UNKNOWN if there is no panel or no such spot; OUTSIDE if what is out of range.");
        due("no panel", new FeltGlass().spot(0, 0), UNKNOWN);
        due("no panel, wrong what", new FeltGlass().spot(0, 6), UNKNOWN);
        FeltGlass x = touchedPanel(3, 3, 4);
        due("no frame", x.spot(0, 0), UNKNOWN);
        x.frames(1);
        for (int spot : new int[] {-1, 1, LOW, TOP}) {
            for (int what : new int[] {0, 5, -1, 6}) due("spot " + spot, x.spot(spot, what), UNKNOWN);
        }
        for (int what : new int[] {-1, 6, LOW, TOP}) due("what " + what, x.spot(0, what), OUTSIDE);
        int[] facts = {4, 1, 50, 16, 16, 1};
        for (int what = 0; what <= 5; what++) due("spot(0, " + what + ")", x.spot(0, what), facts[what]);
        Checks.raise(x, 4, 0);
        x.frames(1);
        due("no spot", x.spot(0, 0), UNKNOWN);
        due("no spot, wrong what", x.spot(0, 6), UNKNOWN);
        x = Busy.panel();
        due("the sixth spot", x.spot(5, 0), 14);
        due("no seventh", x.spot(6, 0), UNKNOWN);
        due("the sixth spot, wrong what", x.spot(5, 6), OUTSIDE);
        x.glass(5, 5);
        due("the next panel has none", x.spot(0, 0), UNKNOWN);
    }

    private static void spotWithoutTrack() {
        sentence(17, "5 the identifier of its track (NONE if it has none)");
        FeltGlass x = Busy.panel();
        for (int spot = 0; spot < 6; spot++) due("the track of " + spot, x.spot(spot, 5), 7 + spot);
        x.noise(0, 0);
        x.bound(REACH, 1);
        x.bound(HOLD, 9);
        for (int cell : Busy.SIX) Checks.raise(x, cell, 0);
        Checks.raise(x, 20, 50);
        x.frames(1);
        due("one spot", x.about(5), 1);
        due("six tracks", x.about(6), 6);
        due("a spot without a track", x.spot(0, 5), NONE);
    }

    // ---- Promise 18: track

    private static void trackRange() {
        sentence(18, "UNKNOWN if there is no panel or no such track; OUTSIDE if what is out of range.");
        due("no panel", new FeltGlass().track(0, 0), UNKNOWN);
        due("no panel, wrong what", new FeltGlass().track(0, 9), UNKNOWN);
        FeltGlass x = touchedPanel(3, 3, 4);
        due("no track", x.track(0, 0), UNKNOWN);
        x.frames(1);
        for (int track : new int[] {-1, 1, LOW, TOP}) {
            for (int what : new int[] {0, 8, -1, 9}) due("track " + track, x.track(track, what), UNKNOWN);
        }
        for (int what : new int[] {-1, 9, LOW, TOP}) due("what " + what, x.track(0, what), OUTSIDE);
        int[] facts = {1, 16, 16, 1, 50, 1, 0, 0, 0};
        for (int what = 0; what <= 8; what++) due("track(0, " + what + ")", x.track(0, what), facts[what]);
        x = Busy.panel();
        due("the sixth track", x.track(5, 0), 12);
        due("no seventh", x.track(6, 0), UNKNOWN);
        due("the sixth track, wrong what", x.track(5, 9), OUTSIDE);
        x.glass(5, 5);
        due("the next panel has none", x.track(0, 0), UNKNOWN);
    }

    private static void trackOrder() {
        sentence(18, "the index of the track, from 0, in ascending order of identifiers");
        FeltGlass x = Checks.still(7, 3);
        x.bound(HOLD, 0);
        x.bound(REACH, 1);
        Checks.raise(x, 0, 50, 4, 50, 16, 50);
        x.frames(1);
        for (int track = 0; track < 3; track++) due("three tracks", x.track(track, 0), 1 + track);
        // The second one goes, and a new one comes at a cell between the others.
        Checks.raise(x, 4, 0, 2, 50);
        x.frames(1);
        int[] identifiers = {1, 3, 4}, places = {0, 32, 32};
        for (int track = 0; track < 3; track++) {
            due("identifier at " + track, x.track(track, 0), identifiers[track]);
            due("X at " + track, x.track(track, 1), places[track]);
        }
        due("no fourth", x.track(3, 0), UNKNOWN);
    }

    private static void trackPalm() {
        sentence(18, "8 whether it is a palm (1 or 0)");
        for (int size = 9; size <= 11; size++) {
            FeltGlass x = Checks.still(8, 8);
            for (int cell = 0; cell < size; cell++) Checks.raise(x, cell, 50);
            x.frames(1);
            due("size", x.track(0, 3), size);
            due("palm with " + size + " cells", x.track(0, 8), size >= 10 ? 1 : 0);
        }
    }

    // ---- Promise 19: as

    private static void asKinds() {
        sentence(19, "Returns the identifier of the track if it is of this kind, NONE otherwise");
        FeltGlass x = touchedPanel(5, 3, 5);
        x.bound(PALM, 2);
        Checks.raise(x, 8, 50, 9, 50);
        x.frames(1);
        due("no palm, cast to no palm", x.as(0, 0), 1);
        due("no palm, cast to a palm", x.as(0, 1), NONE);
        due("a palm, cast to no palm", x.as(1, 0), NONE);
        due("a palm, cast to a palm", x.as(1, 1), 2);
    }

    private static void asPalmOrNot() {
        sentence(19, "0 for a track that is not a palm, 1 for a palm");
        FeltGlass x = touchedPanel(5, 3, 5);
        x.bound(PALM, 2);
        x.frames(3);
        due("no palm", x.track(0, 8), 0);
        due("as 0", x.as(0, 0), 1);
        due("as 1", x.as(0, 1), NONE);
        Checks.raise(x, 6, 30);
        x.frames(1);
        due("a palm", x.track(0, 8), 1);
        due("as 0 then", x.as(0, 0), NONE);
        due("as 1 then", x.as(0, 1), 1);
        Checks.raise(x, 6, 0);
        x.frames(1);
        due("as 1 for ever", x.as(0, 1), 1);
    }

    private static void asRange() {
        sentence(19, "UNKNOWN if there is no panel or no such track; OUTSIDE if kind is out of range.");
        due("no panel", new FeltGlass().as(0, 0), UNKNOWN);
        due("no panel, wrong kind", new FeltGlass().as(0, 2), UNKNOWN);
        FeltGlass x = touchedPanel(3, 3, 4);
        due("no track", x.as(0, 0), UNKNOWN);
        x.frames(1);
        for (int track : new int[] {-1, 1, LOW, TOP}) {
            for (int kind = -1; kind <= 2; kind++) due("track " + track, x.as(track, kind), UNKNOWN);
        }
        for (int kind : new int[] {-1, 2, LOW, TOP}) due("kind " + kind, x.as(0, kind), OUTSIDE);
        x = Busy.panel();
        due("the sixth track", x.as(5, 0), 12);
        due("no seventh", x.as(6, 0), UNKNOWN);
        due("no seventh, wrong kind", x.as(6, 2), UNKNOWN);
    }

    // ---- Promise 20: event

    /** Events one by one: down, tap, down, tap, .. of tracks 1, 1, 2, 2, .. in frames 2, 3, 5, 6, .. */
    private static void nextEvent(FeltGlass x, int already) {
        Checks.raise(x, 4, already % 2 == 0 ? 50 : 0);
        due("one event more", x.frames(already % 2 == 0 ? 2 : 1), 1);
    }

    private static void eventPlaces() {
        sentence(20, "The latest twelve events, of all panels, are kept.");
        FeltGlass x = Checks.still(3, 3);
        x.bound(HOLD, 0);
        due("no event", x.event(0, 0), UNKNOWN);
        for (int written = 1; written <= 26; written++) {
            nextEvent(x, written - 1);
            int kept = Math.min(written, 12);
            due("after the oldest of " + written, x.event(kept, 0), UNKNOWN);
            int oldest = written - kept;
            due("the latest sort", x.event(0, 0), written % 2 == 1 ? 1 : 4);
            due("the latest track", x.event(0, 1), (written + 1) / 2);
            due("the oldest sort", x.event(kept - 1, 0), oldest % 2 == 0 ? 1 : 4);
            due("the oldest track", x.event(kept - 1, 1), oldest / 2 + 1);
            due("the oldest frame", x.event(kept - 1, 2), oldest / 2 * 3 + 2 + oldest % 2);
        }
        for (int place = 0; place < 12; place++) due("in order", x.event(place, 1), 13 - place / 2);
        due("no place 12", x.event(12, 0), UNKNOWN);
        due("no place 25", x.event(25, 0), UNKNOWN);
    }

    private static void eventsOfAllPanels() {
        sentence(20, "The latest twelve events, of all panels, are kept.");
        FeltGlass x = new FeltGlass();
        for (int panel = 1; panel <= 13; panel++) {
            x.glass(3, 3);
            Checks.raise(x, 4, 50);
            due("down", x.frames(2), 1);
            int kept = Math.min(panel, 12);
            due("the latest one", x.event(0, 1), panel);
            due("the oldest one", x.event(kept - 1, 1), panel - kept + 1);
            due("none after it", x.event(kept, 1), UNKNOWN);
        }
    }

    private static void eventFrames() {
        sentence(20, "2 in which frame of its panel it occurred (the first frame is 1)");
        FeltGlass x = Checks.still(3, 3);
        x.frames(20);
        Checks.raise(x, 4, 50);
        x.frames(2);
        due("the 22nd frame", x.event(0, 2), 22);
        x.glass(3, 3);
        Checks.raise(x, 4, 50);
        x.frames(20);
        due("the second frame of the next panel", x.event(0, 2), 2);
        x.glass(3, 3);
        x.bound(1, 100);
        x.bound(NOISE, 0);
        Checks.raise(x, 0, 5);
        x.frames(3);
        due("noisy frames", x.count(2), 3);
        x.settle();
        x.bound(1, 20);
        Checks.raise(x, 4, 50);
        x.frames(2);
        due("noisy frames are counted", x.event(0, 2), 5);
    }

    private static void eventLatestFirst() {
        sentence(20, "the index of the event, 0 for the latest one");
        FeltGlass x = Checks.still(3, 3);
        x.bound(HOLD, 0);
        for (int written = 1; written <= 12; written++) nextEvent(x, written - 1);
        for (int place = 0; place < 12; place++) {
            due("track at " + place, x.event(place, 1), 6 - place / 2);
            due("sort at " + place, x.event(place, 0), place % 2 == 0 ? 4 : 1);
        }
        due("before the latest", x.event(-1, 0), UNKNOWN);
        due("after the twelfth", x.event(12, 0), UNKNOWN);
    }

    private static void eventSorts() {
        sentence(20, "0 its sort, 1 to 4");
        FeltGlass x = Checks.still(3, 3);
        x.bound(HOLD, 0);
        x.bound(PALM, 2);
        x.bound(TAP, 2);
        // Down and tap, down and up, down and called off.
        for (int frames = 2; frames <= 3; frames++) {
            Checks.raise(x, 4, 50);
            x.frames(frames);
            Checks.raise(x, 4, 0);
            x.frames(1);
        }
        Checks.raise(x, 4, 50);
        x.frames(2);
        Checks.raise(x, 5, 30);
        x.frames(1);
        int[] sorts = {3, 1, 2, 1, 4, 1};
        for (int place = 0; place < 6; place++) due("sort at " + place, x.event(place, 0), sorts[place]);
        due("no event before", x.event(6, 0), UNKNOWN);
    }

    private static void eventRange() {
        sentence(20, "UNKNOWN if there is no such event; OUTSIDE if what is out of range.");
        due("no panel", new FeltGlass().event(0, 0), UNKNOWN);
        due("no panel, wrong what", new FeltGlass().event(0, 3), UNKNOWN);
        FeltGlass x = touchedPanel(3, 3, 4);
        due("no event", x.event(0, 0), UNKNOWN);
        due("no event, wrong what", x.event(0, -1), UNKNOWN);
        x.frames(2);
        for (int place : new int[] {-1, 1, 12, LOW, TOP}) {
            for (int what : new int[] {0, 2, -1, 3}) due("place " + place, x.event(place, what), UNKNOWN);
        }
        for (int what : new int[] {-1, 3, LOW, TOP}) due("what " + what, x.event(0, what), OUTSIDE);
        for (int what = 0; what <= 2; what++) due("event(0, " + what + ")", x.event(0, what), what == 2 ? 2 : 1);
        x = Busy.panel();
        due("the twelfth", x.event(11, 2), 4);
        due("the twelfth, wrong what", x.event(11, 3), OUTSIDE);
        due("no thirteenth", x.event(12, 0), UNKNOWN);
        due("no thirteenth, wrong what", x.event(12, 3), UNKNOWN);
    }

    // ---- Promise 21: count

    private static void countRange() {
        sentence(21, "Returns the count; OUTSIDE if what is out of range.");
        for (FeltGlass x : new FeltGlass[] {new FeltGlass(), Busy.panel()}) {
            for (int what : new int[] {-1, 6, LOW, TOP, 256}) due("count(" + what + ")", x.count(what), OUTSIDE);
        }
        int[] counts = {40, 6, 0, 12, 1, 2};
        for (int what = 0; what <= 5; what++) due("count(" + what + ")", Busy.panel().count(what), counts[what]);
    }

    private static void countCharacters() {
        sentence(21, "0 characters of the page");
        FeltGlass x = new FeltGlass();
        for (int length = 0; length <= 40; length++) {
            due("count(0)", x.count(0), length);
            x.letter(126);
        }
        due("count(0) after a letter too many", x.count(0), 40);
        x.blank();
        due("count(0) after blank()", x.count(0), 0);
    }

    private static void countsOfAllPanels() {
        sentence(21, "1 frames on all panels, 2 noisy frames on all panels, 3 tracks that have ever begun, 4 texts of"
            + " fingers that were read, 5 panels that were created");
        FeltGlass x = new FeltGlass();
        for (int panel = 1; panel <= 3; panel++) {
            x.glass(5, 5);
            Checks.reads(x, "0@0,0*60", 1);
            x.frames(2);
            Checks.raise(x, 24, -31);
            x.frames(1);
            Checks.type(x, "9");
            x.fingers();
            x.blank();
            x.glass(2, 5);
            x.frames(0);
            int[] counts = {0, 3 * panel, panel, panel, panel, panel};
            for (int what = 0; what <= 5; what++) due("count " + what, x.count(what), counts[what]);
        }
    }

    // ---- Promise 22: events

    private static void eventsErrors() {
        sentence(22, "Returns the number; OUTSIDE if sort is out of range.");
        for (FeltGlass x : new FeltGlass[] {new FeltGlass(), Checks.panel(3, 3), Busy.panel()}) {
            for (int sort : new int[] {0, 5, -1, LOW, TOP, 257}) due("events(" + sort + ")", x.events(sort), OUTSIDE);
        }
    }

    private static void eventsRange() {
        sentence(22, "the sort, 1 to 4");
        for (int sort = 1; sort <= 4; sort++) due("none at first", new FeltGlass().events(sort), 0);
        int[] counts = {12, 0, 0, 6};
        for (int sort = 1; sort <= 4; sort++) due("events " + sort, Busy.panel().events(sort), counts[sort - 1]);
    }

    private static void eventsEver() {
        sentence(22, "Returns how many events of a sort have ever occurred.");
        FeltGlass x = new FeltGlass();
        for (int panel = 1; panel <= 7; panel++) {
            x.glass(3, 3);
            x.bound(HOLD, 0);
            x.bound(PALM, 2);
            // Down and tap, down and up, down and called off.
            Checks.raise(x, 4, 50);
            x.frames(6);
            Checks.raise(x, 4, 0);
            x.frames(1);
            Checks.raise(x, 4, 50);
            x.frames(7);
            Checks.raise(x, 4, 0);
            x.frames(1);
            Checks.raise(x, 4, 50);
            x.frames(2);
            Checks.raise(x, 5, 30);
            x.frames(1);
            int[] counts = {3 * panel, panel, panel, panel};
            for (int sort = 1; sort <= 4; sort++) due("events " + sort, x.events(sort), counts[sort - 1]);
        }
        due("more than are kept", x.event(12, 0), UNKNOWN);
    }

    // ---- Promise 23: digest

    private static void digestWithoutPanel() {
        sentence(23, "if there is a panel");
        FeltGlass x = new FeltGlass();
        due("a new object", x.digest(), Checks.hash(1583, 0, 0, 0, 0, 0, 0, 0, 0, 0, 0));
        due("the same as of the numbers", x.digest(), hashOf(x, ""));
        Checks.type(x, " ~");
        due("a page", x.digest(), Checks.hash(1583, 32, 126, 2, 0, 0, 0, 0, 0, 0, 0, 0, 0));
    }

    private static void digestOfAPanel() {
        sentence(23, "the results of about() for 0 to 8, for each finger those of finger() for 0 to 3, for each cell"
            + " those of cell() for 0 to 5, for each spot those of spot() for 0 to 5, for each track those of track()"
            + " for 0 to 8");
        for (int[] size : new int[][] {{3, 3}, {5, 4}, {4, 8}}) {
            FeltGlass x = Checks.panel(size[0], size[1]);
            due("no frame, no spot, no track", x.digest(), hashOf(x, ""));
        }
        FeltGlass x = touchedPanel(3, 3, 4);
        x.frames(1);
        due("a spot and a track", x.digest(), hashOf(x, ""));
        x = Busy.panel();
        due("six spots", x.about(5), 6);
        due("six tracks", x.about(6), 6);
        due("all of them", x.digest(), hashOf(x, Busy.PAGE));
        x = Busy.noisyPanel();
        due("no spots", x.about(5), 0);
        due("a noisy frame", x.digest(), hashOf(x, Busy.PAGE));
    }

    private static void digestOfEvents() {
        sentence(23, "for each event that is kept, the latest first, those of event() for 0 to 2");
        FeltGlass x = touchedPanel(3, 3, 4);
        x.bound(HOLD, 0);
        x.frames(1);
        due("no event", x.digest(), hashOf(x, ""));
        x.frames(1);
        due("one event", x.digest(), hashOf(x, ""));
        Checks.raise(x, 4, 0);
        x.frames(1);
        due("two events", x.digest(), hashOf(x, ""));
        x = Checks.still(3, 3);
        x.bound(HOLD, 0);
        for (int written = 1; written <= 12; written++) nextEvent(x, written - 1);
        due("twelve events", x.digest(), hashOf(x, ""));
        nextEvent(x, 12);
        due("the thirteenth", x.digest(), hashOf(x, ""));
        x.glass(3, 3);
        due("on the next panel", x.digest(), hashOf(x, ""));
    }

    private static void digestOfThePage() {
        sentence(23, "the characters of the page");
        FeltGlass x = new FeltGlass();
        String full = "The page is a text of at most 40 letters";
        for (int length = 0; length <= 40; length++) {
            due("a page of " + length, x.digest(), hashOf(x, full.substring(0, length)));
            if (length < 40) x.letter(full.charAt(length));
            if (length % 20 == 19) {
                x = new FeltGlass();
                Checks.type(x, full.substring(0, length + 1));
            }
        }
        x.blank();
        due("an empty page again", x.digest(), Checks.hash(1583, 0, 0, 0, 0, 0, 0, 0, 0, 0, 0));
    }

    private static void digestOverflows() {
        sentence(23, "It begins with h = 1583; for each of the following numbers, in this order, h becomes 31 * h plus"
            + " the number, in long arithmetic with overflow");
        // 31 to the power of 11 or more, times 1583, is beyond a long.
        FeltGlass x = new FeltGlass();
        x.letter(126);
        BigInteger h = BigInteger.valueOf(1583);
        for (int number : new int[] {126, 1, 0, 0, 0, 0, 0, 0, 0, 0, 0}) {
            h = h.multiply(BigInteger.valueOf(31)).add(BigInteger.valueOf(number));
        }
        Checks.holds("the sum is beyond a long", h.bitLength() > 63);
        due("digest()", x.digest(), h.longValue());
    }

    private static void digestChangesNothing() {
        sentence(23, "Computes a hash value.");
        FeltGlass x = Busy.panel(), twin = Busy.panel();
        long first = x.digest();
        due("again", x.digest(), first);
        due("of the twin", twin.digest(), first);
        due("frames", x.frames(5), twin.frames(5));
        due("after frames", x.digest(), twin.digest());
    }

    /** The hash of what the other methods answer. */
    private static long hashOf(FeltGlass x, String page) {
        long h = 1583;
        if (x.about(0) != STATE) {
            for (int what = 0; what <= 8; what++) h = Checks.hash(h, x.about(what));
            for (int i = 0; i < 5; i++) for (int what = 0; what <= 3; what++) h = Checks.hash(h, x.finger(i, what));
            int cells = x.about(0) * x.about(1), spots = x.about(5), tracks = x.about(6);
            for (int i = 0; i < cells; i++) for (int what = 0; what <= 5; what++) h = Checks.hash(h, x.cell(i, what));
            for (int i = 0; i < spots; i++) for (int what = 0; what <= 5; what++) h = Checks.hash(h, x.spot(i, what));
            for (int i = 0; i < tracks; i++) for (int what = 0; what <= 8; what++) h = Checks.hash(h, x.track(i, what));
        }
        for (int i = 0; i < 12 && x.event(i, 0) != UNKNOWN; i++) {
            for (int what = 0; what <= 2; what++) h = Checks.hash(h, x.event(i, what));
        }
        for (char c : page.toCharArray()) h = Checks.hash(h, c);
        for (int what = 0; what <= 5; what++) h = Checks.hash(h, x.count(what));
        for (int sort = 1; sort <= 4; sort++) h = Checks.hash(h, x.events(sort));
        return h;
    }
}
