/** The sentences of promises 2 to 23 that name no boundary case: what each call does and each property tells. */
public final class CallSentencesTest {
    private static final int NONE = Checks.NONE, UNKNOWN = Checks.UNKNOWN;

    public static void main(String[] args) {
        letter();
        fault();
        fingers();
        glass();
        air();
        warm();
        noise();
        seed();
        bound();
        settle();
        frames();
        finger();
        cell();
        about();
        spot();
        track();
        as();
        event();
        count();
        events();
        digest();
        Checks.end();
    }

    private static void sentence(int promise, String words) {
        Checks.sentence("Promise " + promise, words);
    }

    private static void due(String call, long got, long want) {
        Checks.due(call, got, want);
    }

    /** A finger of 120 in the middle of 6 by 5 cells, sensed by 3 by 3 of them, after some frames. */
    private static FeltGlass touched(int frames) {
        FeltGlass x = Checks.panel(6, 5);
        Checks.reads(x, "0@4,4*120", 1);
        if (frames > 0) x.frames(frames);
        return x;
    }

    private static void letter() {
        sentence(2, "Appends a character to the page.");
        FeltGlass x = Checks.panel(3, 3);
        int[] codes = {'2', '@', '1', ',', '3', '*', '9', '9'};
        for (int i = 0; i < codes.length; i++) {
            due("letter " + i, x.letter(codes[i]), i + 1);
            due("characters", x.count(0), i + 1);
        }
        due("the page is these characters in this order", x.fingers(), 1);
        int[] facts = {1, 1, 3, 99};
        for (int what = 0; what <= 3; what++) due("finger(2, " + what + ")", x.finger(2, what), facts[what]);
        sentence(2, "its code, 32 to 126");
        for (int code = 32; code <= 126; code++) {
            FeltGlass each = new FeltGlass();
            due("letter(" + code + ")", each.letter(code), 1);
            due("the character " + code, each.digest(), Checks.hash(1583, code, 1, 0, 0, 0, 0, 0, 0, 0, 0, 0));
        }
    }

    private static void fault() {
        sentence(4, "Checks the page as a text of fingers for the present panel.");
        FeltGlass x = Checks.panel(8, 3);
        Checks.type(x, "0@14,4*20");
        due("right on 8 by 3", x.fault(), 9);
        x.glass(3, 8);
        due("u too great on 3 by 8", x.fault(), 3);
        x.glass(7, 3);
        due("u too great on 7 by 3", x.fault(), 3);
        x.glass(8, 8);
        due("right on 8 by 8", x.fault(), 9);
        due("the page stays", x.count(0), 9);
        due("the fingers stay", x.finger(0, 0), 0);
    }

    private static void fingers() {
        sentence(5, "Reads the page as a text of fingers; fingers that do not occur in it stay as they are. The page is"
            + " empty then.");
        FeltGlass x = Checks.panel(6, 5);
        Checks.type(x, "1@2,3*40;3@10,8*50");
        due("fingers()", x.fingers(), 2);
        due("the page is empty", x.count(0), 0);
        Checks.type(x, "3-;0@0,1*60");
        due("fingers() again", x.fingers(), 2);
        int[][] facts = {{1, 0, 1, 60}, {1, 2, 3, 40}, {0, NONE, NONE, NONE}, {0, NONE, NONE, NONE},
            {0, NONE, NONE, NONE}};
        for (int finger = 0; finger <= 4; finger++) {
            for (int what = 0; what <= 3; what++) {
                due("finger(" + finger + ", " + what + ")", x.finger(finger, what), facts[finger][what]);
            }
        }
        sentence(5, "Returns how many of the five fingers are on then; STATE if there is no panel, or the page is not"
            + " such a text (the page stays then).");
        Checks.reads(x, "2@1,1*10;3@1,1*10;4@1,1*10", 5);
        Checks.reads(x, "0-;4-", 3);
        Checks.refuses(x, "0-;4");
        due("still as they were", x.finger(1, 3), 40);
        FeltGlass bare = new FeltGlass();
        Checks.refuses(bare, "0-");
    }

    private static void glass() {
        sentence(6, "Creates a panel, in place of the one that there was.");
        FeltGlass x = touched(3);
        due("glass(4, 7)", x.glass(4, 7), 28);
        due("W", x.about(0), 4);
        due("H", x.about(1), 7);
        due("no frames", x.about(8), 0);
        due("no tracks", x.about(6), 0);
        due("no finger", x.finger(0, 0), 0);
        due("the last cell", x.cell(27, 0), 100);
        due("a cell of the old panel", x.cell(28, 0), UNKNOWN);
        due("panels", x.count(5), 2);
    }

    private static void air() {
        sentence(7, "Sets the background of a cell.");
        FeltGlass x = Checks.panel(4, 3);
        for (int cell = 0; cell < 12; cell++) {
            due("air(" + cell + ")", x.air(cell, 10 * cell), 100);
            due("its background", x.cell(cell, 0), 10 * cell);
        }
        for (int cell = 0; cell < 12; cell++) {
            due("the background of " + cell, x.cell(cell, 0), 10 * cell);
            due("the baseline of " + cell, x.cell(cell, 1), 100);
        }
        sentence(7, "a cell");
        due("the last cell", x.air(11, 1), 110);
        due("no cell", x.air(12, 1), UNKNOWN);
    }

    private static void warm() {
        sentence(8, "Adds a number to the backgrounds of all cells, which stay at least 0 and at most 999.");
        FeltGlass x = Checks.panel(3, 3);
        for (int cell = 0; cell < 9; cell++) x.air(cell, 120 * cell);
        due("warm(40)", x.warm(40), 9);
        for (int cell = 0; cell < 9; cell++) {
            due("warmer " + cell, x.cell(cell, 0), cell == 8 ? 999 : 120 * cell + 40);
        }
        due("warm(-50)", x.warm(-50), 9);
        for (int cell = 0; cell < 9; cell++) {
            due("colder " + cell, x.cell(cell, 0), cell == 0 ? 0 : cell == 8 ? 949 : 120 * cell - 10);
        }
    }

    private static void noise() {
        sentence(9, "Sets the noise level of a drive.");
        FeltGlass x = Checks.still(3, 3);
        due("noise(0, 5)", x.noise(0, 5), 0);
        due("noise(1, 9)", x.noise(1, 9), 0);
        x.seed(0);
        x.frames(1);
        // The first number that is drawn from the seed 0 is 0.
        due("drive 0 makes 5", x.cell(0, 2), 95);
        x.bound(8, 0);
        x.frames(1);
        due("drive 1 is active", x.about(2), 1);
        x.seed(0);
        x.frames(1);
        due("drive 1 makes 9", x.cell(0, 2), 91);
        due("drive 2 is active", x.about(2), 2);
        x.frames(1);
        due("drive 2 is silent", x.cell(0, 2), 100);
    }

    private static void seed() {
        sentence(10, "Sets the seed.");
        FeltGlass x = Checks.still(3, 3), twin = Checks.still(3, 3);
        due("seed(4711)", x.seed(4711), 1);
        due("about(7)", x.about(7), 4711);
        x.noise(0, 30);
        twin.noise(0, 30);
        x.frames(2);
        twin.seed(4711);
        twin.frames(2);
        due("the same seed, the same noise", x.digest(), twin.digest());
        twin.seed(4712);
        x.frames(1);
        twin.frames(1);
        Checks.holds("another seed, other noise", x.digest() != twin.digest());
    }

    private static void bound() {
        sentence(11, "Changes a setting.");
        FeltGlass x = Checks.panel(3, 3);
        Checks.raise(x, 4, 60);
        due("bound(0, 61)", x.bound(0, 61), 40);
        x.frames(1);
        due("60 is too low a peak", x.about(5), 0);
        x.settle();
        Checks.raise(x, 4, 121);
        due("bound(0, 60)", x.bound(0, 60), 61);
        x.frames(1);
        due("61 is none", x.about(5), 1);
    }

    private static void settle() {
        sentence(12, "Sets the baseline of each cell to its background.");
        FeltGlass x = Checks.panel(4, 3);
        for (int cell = 0; cell < 12; cell++) x.air(cell, 90 * cell);
        Checks.reads(x, "0@0,0*200", 1);
        due("settle()", x.settle(), 12);
        for (int cell = 0; cell < 12; cell++) {
            due("the baseline of " + cell, x.cell(cell, 1), 90 * cell);
            due("the background of " + cell, x.cell(cell, 0), 90 * cell);
        }
    }

    private static void frames() {
        sentence(13, "Carries out frames.");
        FeltGlass x = touched(0), twin = touched(0);
        due("frames(3)", x.frames(3), 1);
        for (int i = 0; i < 3; i++) twin.frames(1);
        due("three times one frame", x.digest(), twin.digest());
        due("frames", x.about(8), 3);
        due("age", x.track(0, 5), 3);
    }

    private static void finger() {
        sentence(14, "Returns a property of a finger.");
        FeltGlass x = Checks.panel(6, 5);
        Checks.reads(x, "1@3,4*56;4@10,0*78", 2);
        sentence(14, "0 whether it is on (1 or 0), 1 u, 2 v, 3 its power (NONE for 1 to 3 if it is off)");
        int[][] facts = {{0, NONE, NONE, NONE}, {1, 3, 4, 56}, {0, NONE, NONE, NONE}, {0, NONE, NONE, NONE},
            {1, 10, 0, 78}};
        for (int finger = 0; finger <= 4; finger++) {
            for (int what = 0; what <= 3; what++) {
                due("finger(" + finger + ", " + what + ")", x.finger(finger, what), facts[finger][what]);
            }
        }
        sentence(14, "Returns the property; STATE if there is no panel");
        due("finger(1, 3)", x.finger(1, 3), 56);
        due("without panel", new FeltGlass().finger(1, 3), Checks.STATE);
    }

    private static void cell() {
        sentence(15, "Returns a property of a cell.");
        FeltGlass x = touched(0);
        x.warm(3);
        x.air(29, 104);
        x.frames(1);
        Checks.reads(x, "0@4,4*100;1@10,8*50", 2);
        sentence(15, "a cell");
        due("the last cell", x.cell(29, 0), 104);
        due("no cell", x.cell(30, 0), UNKNOWN);
        sentence(15, "0 its background, 1 its baseline, 2 its raw value in the latest frame, 3 its delta in the latest"
            + " frame, before the baseline was moved (2 and 3: 0 if there was no frame on this panel), 4 the number of"
            + " the spot of the latest frame to which it belongs (NONE if to none, or there was no frame), 5 what it"
            + " senses of all fingers as they are now");
        int[] under = {103, 100, 223, 123, 0, 100}, beside = {103, 100, 175, 75, 0, 52};
        int[] far = {104, 102, 104, 4, NONE, 50}, between = {103, 100, 103, 3, NONE, 2};
        for (int what = 0; what <= 5; what++) {
            due("under the finger, " + what, x.cell(14, what), under[what]);
            due("beside it, " + what, x.cell(13, what), beside[what]);
            due("under the new finger, " + what, x.cell(29, what), far[what]);
            due("beside the new finger, " + what, x.cell(28, what), between[what]);
        }
        sentence(15, "Returns the property; UNKNOWN if there is no panel or no such cell");
        due("the property", x.cell(14, 2), 223);
        due("without panel", new FeltGlass().cell(14, 2), UNKNOWN);
    }

    private static void about() {
        sentence(16, "Returns a property of the panel.");
        FeltGlass x = touched(0);
        x.seed(99);
        x.air(29, 97);
        x.air(5, 102);
        x.frames(1);
        sentence(16, "0 W, 1 H, 2 the active drive, 3 the spread in the latest frame (0 if there was no frame), 4"
            + " whether the latest frame was noisy (1 or 0), 5 the number of spots of the latest frame, 6 the number of"
            + " tracks, 7 the seed, 8 the number of frames on this panel");
        int[] quiet = {6, 5, 0, 5, 0, 1, 1, 99, 1}, noisy = {6, 5, 1, 77, 1, 0, 1, 99, 2};
        for (int what = 0; what <= 8; what++) due("about(" + what + ")", x.about(what), quiet[what]);
        // Baselines 98 and 102 by now; cell 5 is at its background and cell 29 falls to 21.
        x.air(29, 21);
        x.frames(1);
        for (int what = 0; what <= 8; what++) due("noisy about(" + what + ")", x.about(what), noisy[what]);
        sentence(16, "Returns the property; STATE if there is no panel");
        due("the property", x.about(8), 2);
        due("without panel", new FeltGlass().about(8), Checks.STATE);
    }

    private static void spot() {
        sentence(17, "Returns a property of a spot of the latest frame.");
        FeltGlass x = Checks.still(6, 5);
        // Cells (1, 1), (2, 1), (1, 2) with 60, 30, 30; cell (5, 4) with 45.
        Checks.raise(x, 7, 60, 8, 30, 13, 30, 29, 45);
        x.frames(1);
        sentence(17, "a spot");
        due("the second spot", x.spot(1, 0), 29);
        due("no spot", x.spot(2, 0), UNKNOWN);
        sentence(17, "0 its peak, 1 its size, 2 its mass, 3 X, 4 Y, 5 the identifier of its track (NONE if it has"
            + " none)");
        int[] first = {7, 3, 120, 20, 20, 1}, second = {29, 1, 45, 80, 64, 2}, later = {29, 1, 50, 80, 64, 2};
        for (int what = 0; what <= 5; what++) {
            due("the first spot, " + what, x.spot(0, what), first[what]);
            due("the second spot, " + what, x.spot(1, what), second[what]);
        }
        Checks.raise(x, 7, 0, 8, 0, 13, 0, 29, 50);
        x.frames(1);
        for (int what = 0; what <= 5; what++) due("of the latest frame, " + what, x.spot(0, what), later[what]);
        sentence(17, "Returns the property; UNKNOWN if there is no panel or no such spot");
        due("the property", x.spot(0, 2), 50);
        due("no second one", x.spot(1, 2), UNKNOWN);
        due("without panel", new FeltGlass().spot(0, 2), UNKNOWN);
    }

    private static void track() {
        sentence(18, "Returns a property of a track.");
        FeltGlass x = Checks.still(6, 5);
        x.bound(3, 3);
        Checks.raise(x, 7, 60, 8, 30, 13, 30, 29, 45);
        x.frames(1);
        sentence(18, "the index of the track, from 0, in ascending order of identifiers");
        due("the first track", x.track(0, 0), 1);
        due("the second track", x.track(1, 0), 2);
        due("no track", x.track(2, 0), UNKNOWN);
        Checks.raise(x, 7, 0, 8, 0, 13, 0, 29, 0, 28, 50);
        x.frames(1);
        sentence(18, "0 the identifier, 1 X, 2 Y, 3 the size, 4 the mass, 5 the age, 6 the number of missed frames, 7"
            + " the path length, 8 whether it is a palm (1 or 0)");
        int[] first = {1, 20, 20, 3, 120, 1, 1, 0, 1}, second = {2, 64, 64, 1, 50, 2, 0, 16, 0};
        for (int what = 0; what <= 8; what++) {
            due("the first track, " + what, x.track(0, what), first[what]);
            due("the second track, " + what, x.track(1, what), second[what]);
        }
        sentence(18, "Returns the property; UNKNOWN if there is no panel or no such track");
        due("the property", x.track(1, 4), 50);
        due("no third one", x.track(2, 4), UNKNOWN);
        due("without panel", new FeltGlass().track(0, 4), UNKNOWN);
    }

    private static void as() {
        sentence(19, "Casts a track to a kind.");
        FeltGlass x = Checks.still(6, 5);
        x.bound(3, 3);
        Checks.raise(x, 7, 60, 8, 30, 13, 30, 29, 45);
        x.frames(1);
        sentence(19, "the index of the track, as in track()");
        due("the palm as a palm", x.as(0, 1), 1);
        due("the palm as a finger", x.as(0, 0), NONE);
        due("the finger as a palm", x.as(1, 1), NONE);
        due("the finger as a finger", x.as(1, 0), 2);
        for (int track = 0; track <= 1; track++) {
            due("as track() says", x.as(track, x.track(track, 8)), x.track(track, 0));
        }
        sentence(19, "0 for a track that is not a palm, 1 for a palm");
        Checks.raise(x, 7, 0, 8, 0, 13, 0);
        x.frames(2);
        due("one track", x.about(6), 1);
        due("the finger is at index 0 now", x.as(0, 0), 2);
        due("and no palm", x.as(0, 1), NONE);
    }

    private static void event() {
        sentence(20, "Returns a property of an event. The latest twelve events, of all panels, are kept.");
        FeltGlass x = touched(2);
        Checks.reads(x, "0-", 0);
        x.frames(2);
        x.glass(3, 3);
        sentence(20, "0 its sort, 1 to 4, 1 the identifier of its track, 2 in which frame of its panel it occurred (the"
            + " first frame is 1)");
        int[] tap = {4, 1, 4}, down = {1, 1, 2}, second = {1, 2, 3};
        for (int what = 0; what <= 2; what++) {
            due("tap, " + what, x.event(0, what), tap[what]);
            due("down, " + what, x.event(1, what), down[what]);
        }
        x.frames(1);
        Checks.raise(x, 4, 50);
        x.frames(2);
        for (int what = 0; what <= 2; what++) {
            due("down on the second panel, " + what, x.event(0, what), second[what]);
            due("tap before it, " + what, x.event(1, what), tap[what]);
            due("down before both, " + what, x.event(2, what), down[what]);
        }
        sentence(20, "Returns the property; UNKNOWN if there is no such event");
        due("the property", x.event(0, 2), 3);
        due("no such event", x.event(3, 2), UNKNOWN);
    }

    private static void count() {
        sentence(21, "Returns a count.");
        FeltGlass x = touched(3);
        Checks.raise(x, 29, -40);
        x.frames(2);
        x.glass(5, 5);
        Checks.reads(x, "0@0,0*99;1@8,8*99", 2);
        Checks.reads(x, "2@8,0*99", 3);
        x.frames(4);
        Checks.type(x, "wxyz");
        sentence(21, "0 characters of the page, 1 frames on all panels, 2 noisy frames on all panels, 3 tracks that have"
            + " ever begun, 4 texts of fingers that were read, 5 panels that were created");
        int[] counts = {4, 9, 2, 4, 3, 2};
        for (int what = 0; what <= 5; what++) due("count(" + what + ")", x.count(what), counts[what]);
    }

    private static void events() {
        sentence(22, "Returns how many events of a sort have ever occurred.");
        FeltGlass x = touched(2);
        int[][] counts = {{1, 0, 0, 0}, {1, 0, 0, 1}, {2, 0, 0, 1}, {2, 1, 0, 1}, {3, 1, 0, 1}, {3, 1, 1, 1}};
        for (int row = 0; row < counts.length; row++) {
            if (row == 1) Checks.reads(x, "0-", 0);
            if (row == 2) Checks.reads(x, "0@4,4*120", 1);
            if (row == 3) x.frames(5);
            if (row == 3) Checks.reads(x, "0-", 0);
            if (row == 4) Checks.reads(x, "0@4,4*120", 1);
            if (row == 5) x.bound(3, 9);
            if (row > 0) due("one event", x.frames(2), 1);
            for (int sort = 1; sort <= 4; sort++) due("events(" + sort + ")", x.events(sort), counts[row][sort - 1]);
        }
    }

    private static void digest() {
        sentence(23, "if there is a panel, the results of about() for 0 to 8, for each finger those of finger() for 0 to"
            + " 3, for each cell those of cell() for 0 to 5, for each spot those of spot() for 0 to 5, for each track"
            + " those of track() for 0 to 8; for each event that is kept, the latest first, those of event() for 0 to"
            + " 2; the characters of the page; the results of count(0) to count(5) and of events(1) to events(4).");
        FeltGlass x = Checks.panel(3, 3);
        Checks.reads(x, "1@4,4*15", 1);
        Checks.raise(x, 0, 50);
        x.frames(2);
        Checks.raise(x, 0, 0);
        x.frames(1);
        Checks.raise(x, 0, 45);
        x.frames(1);
        Checks.type(x, "no");
        long h = Checks.hash(1583, 3, 3, 0, 9, 0, 1, 1, 1, 4);
        for (int finger = 0; finger < 5; finger++) {
            h = finger == 1 ? Checks.hash(h, 1, 4, 4, 15) : Checks.hash(h, 0, NONE, NONE, NONE);
        }
        // The baseline under the weak finger has moved by 2 in each frame.
        h = Checks.hash(h, 145, 100, 145, 45, 0, 0);
        for (int cell = 1; cell < 8; cell++) h = Checks.hash(h, 100, 100, 100, 0, NONE, 0);
        h = Checks.hash(h, 100, 108, 115, 9, NONE, 15);
        h = Checks.hash(h, 0, 1, 45, 0, 0, 1);
        h = Checks.hash(h, 1, 0, 0, 1, 45, 3, 0, 0, 0);
        h = Checks.hash(h, 1, 1, 2);
        h = Checks.hash(h, 'n', 'o');
        h = Checks.hash(h, 2, 4, 0, 1, 1, 1);
        h = Checks.hash(h, 1, 0, 0, 0);
        sentence(23, "Returns h.");
        due("digest()", x.digest(), h);
    }
}
