/** Each promise in its turn: ordinary calls, the ends of the ranges, wrong calls, and no panel. */
public final class PromiseTest {
    private static final int NONE = Checks.NONE, UNKNOWN = Checks.UNKNOWN, OUTSIDE = Checks.OUTSIDE;
    private static final int STATE = Checks.STATE, FULL = Checks.FULL;
    private static final int LOW = Integer.MIN_VALUE, TOP = Integer.MAX_VALUE;

    public static void main(String[] args) {
        newObject();
        letter();
        blank();
        fault();
        faultInNumbers();
        faultInSmallPowers();
        fingers();
        glass();
        air();
        warm();
        noise();
        seed();
        bound();
        settle();
        frames();
        finger();
        cell();
        about();
        spot();
        track();
        as();
        event();
        count();
        events();
        digest();
        noPanelChangesNothing();
        Checks.end();
    }

    private static void due(String call, long got, long want) {
        Checks.due(call, got, want);
    }

    private static long hash(long from, int... numbers) {
        return Checks.hash(from, numbers);
    }

    private static FeltGlass touchedPanel() {
        FeltGlass x = Checks.panel(6, 5);
        Checks.reads(x, "0@4,4*120", 1);
        return x;
    }

    private static void newObject() {
        FeltGlass x = new FeltGlass();
        for (int what = 0; what <= 5; what++) due("new count " + what, x.count(what), 0);
        for (int sort = 1; sort <= 4; sort++) due("new events " + sort, x.events(sort), 0);
        due("new event", x.event(0, 0), UNKNOWN);
        due("new about", x.about(0), STATE);
        due("new blank", x.blank(), 0);
        due("new digest", x.digest(), hash(1583, 0, 0, 0, 0, 0, 0, 0, 0, 0, 0));
        x.glass(3, 3);
        due("another object has no panel", new FeltGlass().about(0), STATE);
    }

    private static void letter() {
        FeltGlass x = new FeltGlass();
        due("letter(31)", x.letter(31), OUTSIDE);
        due("letter(127)", x.letter(127), OUTSIDE);
        due("letter(low)", x.letter(LOW), OUTSIDE);
        due("letter(top)", x.letter(TOP), OUTSIDE);
        due("letter(32)", x.letter(32), 1);
        due("letter(126)", x.letter(126), 2);
        for (int length = 3; length <= 40; length++) due("letter", x.letter(48), length);
        long before = x.digest();
        due("letter on a full page", x.letter(48), FULL);
        due("wrong letter on a full page", x.letter(31), OUTSIDE);
        due("digest after a full page", x.digest(), before);
        due("count(0)", x.count(0), 40);
    }

    private static void blank() {
        FeltGlass x = new FeltGlass();
        Checks.type(x, "abc");
        due("blank of three", x.blank(), 3);
        due("blank of none", x.blank(), 0);
        due("count(0) after blank", x.count(0), 0);
        due("letter after blank", x.letter(65), 1);
    }

    private static void fault() {
        due("fault without panel", new FeltGlass().fault(), STATE);
        FeltGlass x = Checks.panel(8, 3);
        due("fault of nothing", x.fault(), 0);
        Checks.fault(x, "0", 1);
        Checks.fault(x, "4", 1);
        Checks.fault(x, "5", 0);
        Checks.fault(x, ";", 0);
        Checks.fault(x, "-", 0);
        Checks.fault(x, " 0-", 0);
        Checks.fault(x, "00", 1);
        Checks.fault(x, "0-", 2);
        Checks.fault(x, "0--", 2);
        Checks.fault(x, "0-1-", 2);
        Checks.fault(x, "0-;", 3);
        Checks.fault(x, "0-;;", 3);
        Checks.fault(x, "0-;5", 3);
        Checks.fault(x, "0-;0-;0-", 8);
        Checks.fault(x, "0@", 2);
        Checks.fault(x, "0@,", 2);
        Checks.fault(x, "0@1*", 3);
        Checks.fault(x, "0@1,*", 4);
        Checks.fault(x, "0@1,1,", 5);
        Checks.fault(x, "0@1,1*;", 6);
        Checks.fault(x, "0@1,1*99;3@0,0*10", 17);
        Checks.fault(x, "0@1,1*99-", 8);
        due("a fault is no text read", x.count(4), 0);
        due("a fault moves no finger", x.finger(0, 0), 0);
    }

    private static void faultInNumbers() {
        FeltGlass x = Checks.panel(8, 3);
        Checks.fault(x, "0@14,4*250", 10);
        Checks.fault(x, "0@15,4*250", 3);
        Checks.fault(x, "0@20,4*250", 3);
        Checks.fault(x, "0@140", 4);
        Checks.fault(x, "0@14,5", 5);
        Checks.fault(x, "0@14,14", 6);
        Checks.fault(x, "0@0,0*10", 8);
        Checks.fault(x, "0@00", 3);
        Checks.fault(x, "0@01", 3);
        Checks.fault(x, "0@0,00", 5);
        Checks.fault(x, "0@-1", 2);
        Checks.fault(x, "0@0,0*1", 7);
        Checks.fault(x, "0@0,0*1;", 7);
        Checks.fault(x, "0@0,0*9;1-", 7);
        Checks.fault(x, "0@0,0*25", 8);
        Checks.fault(x, "0@0,0*250", 9);
        Checks.fault(x, "0@0,0*2500", 9);
        Checks.fault(x, "0@0,0*251", 8);
        Checks.fault(x, "0@0,0*260", 8);
        Checks.fault(x, "0@0,0*999", 8);
        x.glass(3, 8);
        Checks.fault(x, "0@14,4*250", 3);
        Checks.fault(x, "0@4,14*250", 10);
        Checks.fault(x, "0@4,15*250", 5);
        Checks.fault(x, "0@5,1*250", 2);
    }

    /** The sign after a power below 10, or the end of the page, is the fault; 0 is such a power as well. */
    private static void faultInSmallPowers() {
        for (int power = 0; power <= 9; power++) {
            FeltGlass x = Checks.panel(3, 3);
            String text = "0@0,0*" + power;
            Checks.fault(x, text, 7);
            for (String after : new String[] {";", ";1-", "-", "@", ",", "*", " ", "x"}) {
                Checks.fault(x, text + after, 7);
            }
            Checks.fault(x, "3-;" + text, 10);
            Checks.fault(x, "4@4,4*250;" + text + ";3-", 17);
        }
        for (int digit = 0; digit <= 9; digit++) {
            FeltGlass x = Checks.panel(3, 3);
            Checks.fault(x, "0@0,0*0" + digit, 7);
            Checks.fault(x, "0@0,0*0" + digit + "0;1-", 7);
        }
        FeltGlass x = Checks.panel(3, 3);
        Checks.fault(x, "0-;0-;0-;0-;0-;0-;0-;0-;0-;0-;0-;0@0,0*0", 40);
        Checks.fault(x, "0-;0-;0-;0-;0-;0-;0-;0-;0-;0-;0@0,0*0;0-", 37);
    }

    private static void fingers() {
        due("fingers without panel", new FeltGlass().fingers(), STATE);
        FeltGlass x = Checks.panel(8, 8);
        Checks.refuses(x, "");
        Checks.refuses(x, "0");
        Checks.refuses(x, "0-;");
        Checks.refuses(x, "0@0,0*");
        Checks.refuses(x, "0@0,0*9");
        Checks.refuses(x, "0@0,0*0");
        Checks.refuses(x, "0@0,0*0;1-");
        Checks.refuses(x, "0@0,0*010");
        Checks.refuses(x, "1-;0@0,0*0");
        Checks.refuses(x, "1@2,2*50;0@0,0*9");
        Checks.refuses(x, "1@2,2*50x");
        due("refused text put no finger", x.finger(1, 0), 0);
        due("refused texts are not counted", x.count(4), 0);
        Checks.reads(x, "1@2,3*50;4@14,14*250", 2);
        due("u", x.finger(1, 1), 2);
        due("v", x.finger(1, 2), 3);
        due("power", x.finger(1, 3), 50);
        due("u of 4", x.finger(4, 1), 14);
        Checks.reads(x, "0@0,0*10", 3);
        due("1 stays", x.finger(1, 3), 50);
        Checks.reads(x, "1-;2-", 2);
        due("1 is off", x.finger(1, 0), 0);
        Checks.reads(x, "3@1,1*20;3@2,5*30", 3);
        due("the last part counts", x.finger(3, 2), 5);
        Checks.reads(x, "2@1,1*20;2-", 3);
        due("the last part counts for off", x.finger(2, 0), 0);
        due("texts read", x.count(4), 5);
        Checks.reads(x, "0@1,10*100;1@11,11*110;2@12,12*120;3-;4-", 3);
        due("the last of 40 letters counts", x.finger(4, 0), 0);
    }

    private static void glass() {
        FeltGlass x = new FeltGlass();
        int[][] bad = {{2, 3}, {3, 2}, {9, 8}, {8, 9}, {LOW, 5}, {5, TOP}, {0, 0}};
        for (int[] sides : bad) due("bad glass", x.glass(sides[0], sides[1]), OUTSIDE);
        due("still no panel", x.about(0), STATE);
        due("glass(3, 8)", x.glass(3, 8), 24);
        due("glass(8, 3)", x.glass(8, 3), 24);
        due("count(5)", x.count(5), 2);
        Checks.reads(x, "0@4,2*200", 1);
        x.noise(2, 9);
        x.seed(99);
        x.bound(8, 200);
        x.frames(3);
        x.air(5, 7);
        Checks.type(x, "ab");
        long before = x.digest();
        due("bad glass on a panel", x.glass(3, 9), OUTSIDE);
        due("bad glass changes nothing", x.digest(), before);
        due("glass(4, 4)", x.glass(4, 4), 16);
        int[] aboutNew = {4, 4, 0, 0, 0, 0, 0, 1, 0};
        for (int what = 0; what <= 8; what++) due("new about " + what, x.about(what), aboutNew[what]);
        due("finger is off", x.finger(0, 0), 0);
        due("noise is reset", x.noise(2, 0), 0);
        int[] first = {40, 20, 80, 10, 24, 1, 6, 2, 30};
        for (int what = 0; what <= 8; what++) due("setting is reset", x.bound(what, first[what]), first[what]);
        int[] cellNew = {100, 100, 0, 0, NONE, 0};
        for (int cell = 0; cell < 16; cell++) {
            for (int what = 0; what <= 5; what++) due("cell is reset", x.cell(cell, what), cellNew[what]);
        }
        due("page stays", x.count(0), 2);
        due("event stays", x.event(0, 0), 1);
        due("events stay", x.events(1), 1);
        int[] counts = {2, 3, 0, 1, 1, 3};
        for (int what = 0; what <= 5; what++) due("count stays", x.count(what), counts[what]);
        x.blank();
        Checks.reads(x, "0@4,2*200", 1);
        x.frames(1);
        due("identifiers go on", x.track(0, 0), 2);
    }

    private static void air() {
        FeltGlass x = new FeltGlass();
        due("air without panel", x.air(0, 1), UNKNOWN);
        x.glass(3, 4);
        due("air below the cells", x.air(-1, 5), UNKNOWN);
        due("air above the cells", x.air(12, 5), UNKNOWN);
        due("unknown comes first", x.air(12, 1000), UNKNOWN);
        due("air top cell", x.air(TOP, 5), UNKNOWN);
        due("air low cell", x.air(LOW, 5), UNKNOWN);
        due("air v -1", x.air(0, -1), OUTSIDE);
        due("air v 1000", x.air(0, 1000), OUTSIDE);
        due("air stays", x.cell(0, 0), 100);
        due("air", x.air(11, 999), 100);
        due("air again", x.air(11, 0), 999);
        due("air at last", x.air(11, 5), 0);
        due("the baseline stays", x.cell(11, 1), 100);
        due("another cell stays", x.cell(10, 0), 100);
    }

    private static void warm() {
        FeltGlass x = new FeltGlass();
        due("warm without panel", x.warm(1), STATE);
        due("state comes first", x.warm(100), STATE);
        x.glass(3, 3);
        due("warm(100)", x.warm(100), OUTSIDE);
        due("warm(-100)", x.warm(-100), OUTSIDE);
        due("warm(low)", x.warm(LOW), OUTSIDE);
        due("warm(0)", x.warm(0), 0);
        x.air(0, 0);
        x.air(1, 999);
        x.air(2, 950);
        due("warm(99)", x.warm(99), 8);
        due("from 0", x.cell(0, 0), 99);
        due("from 999", x.cell(1, 0), 999);
        due("from 950", x.cell(2, 0), 999);
        due("from 100", x.cell(3, 0), 199);
        x.air(0, 0);
        due("warm(-99)", x.warm(-99), 8);
        due("0 stays", x.cell(0, 0), 0);
        due("999 falls", x.cell(1, 0), 900);
        x.air(4, 98);
        due("warm(-99) again", x.warm(-99), 8);
        due("98 ends at 0", x.cell(4, 0), 0);
        due("the baseline stays", x.cell(4, 1), 100);
    }

    private static void noise() {
        FeltGlass x = new FeltGlass();
        due("noise without panel", x.noise(0, 1), STATE);
        due("state comes first", x.noise(3, 1), STATE);
        x.glass(3, 3);
        int[][] bad = {{-1, 1}, {3, 1}, {0, -1}, {0, 61}, {LOW, 1}, {1, TOP}};
        for (int[] call : bad) due("bad noise", x.noise(call[0], call[1]), OUTSIDE);
        for (int drive = 0; drive < 3; drive++) {
            due("noise", x.noise(drive, 60), 0);
            due("noise again", x.noise(drive, drive), 60);
        }
        due("noise of 1", x.noise(1, 0), 1);
        due("noise of 2", x.noise(2, 0), 2);
    }

    private static void seed() {
        FeltGlass x = new FeltGlass();
        due("seed without panel", x.seed(1), STATE);
        due("state comes first", x.seed(-1), STATE);
        x.glass(3, 3);
        due("seed(-1)", x.seed(-1), OUTSIDE);
        due("seed(low)", x.seed(LOW), OUTSIDE);
        due("seed(top)", x.seed(TOP), 1);
        due("seed(0)", x.seed(0), TOP);
        due("about(7)", x.about(7), 0);
        x.noise(0, 1);
        x.frames(1);
        // The first draw leaves 12345 and the number 0, which lowers the raw value by 1.
        due("raw of cell 0", x.cell(0, 2), 99);
        long seed = 0;
        for (int i = 0; i < 9; i++) seed = (1103515245L * seed + 12345) & 0x7fffffff;
        due("seed after nine draws", x.about(7), seed);
    }

    private static void bound() {
        FeltGlass x = new FeltGlass();
        due("bound without panel", x.bound(0, 50), STATE);
        due("state comes first", x.bound(9, 50), STATE);
        x.glass(3, 3);
        due("bound(-1)", x.bound(-1, 20), OUTSIDE);
        due("bound(9)", x.bound(9, 20), OUTSIDE);
        due("bound(top)", x.bound(TOP, 20), OUTSIDE);
        due("bound(low)", x.bound(LOW, 20), OUTSIDE);
        int[][] ranges = {{20, 200, 40}, {10, 100, 20}, {1, 100, 80}, {2, 64, 10}, {1, 127, 24}, {0, 9, 1},
            {1, 30, 6}, {0, 50, 2}, {0, 200, 30}};
        for (int what = 0; what < 9; what++) {
            due("below " + what, x.bound(what, ranges[what][0] - 1), OUTSIDE);
            due("above " + what, x.bound(what, ranges[what][1] + 1), OUTSIDE);
            due("least " + what, x.bound(what, ranges[what][0]), ranges[what][2]);
            due("most " + what, x.bound(what, ranges[what][1]), ranges[what][0]);
            due("back " + what, x.bound(what, ranges[what][2]), ranges[what][1]);
        }
    }

    private static void settle() {
        FeltGlass x = new FeltGlass();
        due("settle without panel", x.settle(), STATE);
        x.glass(3, 3);
        due("settle at first", x.settle(), 0);
        x.air(0, 5);
        x.air(8, 999);
        x.air(4, 100);
        due("settle", x.settle(), 2);
        due("baseline of 0", x.cell(0, 1), 5);
        due("baseline of 8", x.cell(8, 1), 999);
        due("background of 8", x.cell(8, 0), 999);
        due("settle again", x.settle(), 0);
    }

    private static void frames() {
        FeltGlass x = new FeltGlass();
        due("frames without panel", x.frames(1), STATE);
        due("state comes first", x.frames(0), STATE);
        x.glass(6, 5);
        long before = x.digest();
        int[] bad = {0, 21, -1, LOW, TOP};
        for (int n : bad) due("bad frames", x.frames(n), OUTSIDE);
        due("bad frames change nothing", x.digest(), before);
        Checks.reads(x, "0@4,4*120;1@10,8*120", 2);
        due("two downs", x.frames(20), 2);
        due("about(8)", x.about(8), 20);
        Checks.reads(x, "0-;1-", 0);
        due("held", x.frames(1), 0);
        due("two ups", x.frames(1), 2);
        due("ups", x.events(2), 2);
        due("about(8) at last", x.about(8), 22);
    }

    private static void finger() {
        FeltGlass x = new FeltGlass();
        due("finger without panel", x.finger(0, 0), STATE);
        due("state comes first", x.finger(9, 9), STATE);
        x.glass(8, 4);
        due("finger(-1)", x.finger(-1, 0), UNKNOWN);
        due("finger(5)", x.finger(5, 0), UNKNOWN);
        due("finger(top)", x.finger(TOP, 0), UNKNOWN);
        due("unknown before outside", x.finger(5, 4), UNKNOWN);
        due("what 4", x.finger(4, 4), OUTSIDE);
        due("what -1", x.finger(0, -1), OUTSIDE);
        due("off", x.finger(0, 0), 0);
        for (int what = 1; what <= 3; what++) due("off", x.finger(0, what), NONE);
        Checks.reads(x, "0@13,5*77", 1);
        int[] facts = {1, 13, 5, 77};
        for (int what = 0; what <= 3; what++) due("on", x.finger(0, what), facts[what]);
        Checks.reads(x, "0-", 0);
        due("off again", x.finger(0, 0), 0);
        due("no u again", x.finger(0, 1), NONE);
    }

    private static void cell() {
        FeltGlass x = new FeltGlass();
        due("cell without panel", x.cell(0, 0), UNKNOWN);
        x.glass(6, 5);
        due("cell(-1)", x.cell(-1, 0), UNKNOWN);
        due("cell(30)", x.cell(30, 0), UNKNOWN);
        due("cell(top)", x.cell(TOP, 0), UNKNOWN);
        due("unknown before outside", x.cell(30, 6), UNKNOWN);
        due("what 6", x.cell(0, 6), OUTSIDE);
        due("what -1", x.cell(0, -1), OUTSIDE);
        Checks.reads(x, "0@5,4*100;1@4,4*50", 2);
        due("sensed on the left", x.cell(14, 5), 100 - 12 + 50);
        due("sensed on the right", x.cell(15, 5), 100 - 12 + 2);
        due("sensed below", x.cell(21, 5), 100 - 12 * 5);
        due("sensed far away", x.cell(0, 5), 0);
        due("no raw before a frame", x.cell(14, 2), 0);
        due("no delta before a frame", x.cell(14, 3), 0);
        due("no spot before a frame", x.cell(14, 4), NONE);
        x.air(14, 110);
        x.air(0, 103);
        x.frames(1);
        int[] facts = {110, 100, 248, 148, 0, 138};
        for (int what = 0; what <= 5; what++) due("cell 14", x.cell(14, what), facts[what]);
        int[] away = {103, 102, 103, 3, NONE, 0};
        for (int what = 0; what <= 5; what++) due("cell 0", x.cell(0, what), away[what]);
        Checks.reads(x, "0-;1-", 0);
        due("sensed now", x.cell(14, 5), 0);
        due("raw of the latest frame", x.cell(14, 2), 248);
    }

    private static void about() {
        FeltGlass x = new FeltGlass();
        due("about without panel", x.about(0), STATE);
        due("state comes first", x.about(9), STATE);
        x.glass(6, 5);
        due("about(9)", x.about(9), OUTSIDE);
        due("about(-1)", x.about(-1), OUTSIDE);
        due("about(top)", x.about(TOP), OUTSIDE);
        Checks.reads(x, "0@2,2*120;1@10,2*60", 2);
        x.bound(7, 0);
        x.air(24, 97);
        x.frames(3);
        int[] facts = {6, 5, 0, 3, 0, 2, 2, 1, 3};
        for (int what = 0; what <= 8; what++) due("about " + what, x.about(what), facts[what]);
        x.bound(8, 0);
        x.air(24, 50);
        x.frames(1);
        int[] noisy = {6, 5, 1, 50, 1, 0, 2, 1, 4};
        for (int what = 0; what <= 8; what++) due("noisy about " + what, x.about(what), noisy[what]);
    }

    private static void spot() {
        FeltGlass x = new FeltGlass();
        due("spot without panel", x.spot(0, 0), UNKNOWN);
        x = touchedPanel();
        due("spot before a frame", x.spot(0, 0), UNKNOWN);
        x.frames(1);
        int[] facts = {14, 9, 504, 32, 32, 1};
        for (int what = 0; what <= 5; what++) due("spot " + what, x.spot(0, what), facts[what]);
        due("spot(-1)", x.spot(-1, 0), UNKNOWN);
        due("spot(1)", x.spot(1, 0), UNKNOWN);
        due("spot(top)", x.spot(TOP, 0), UNKNOWN);
        due("unknown before outside", x.spot(1, 6), UNKNOWN);
        due("what 6", x.spot(0, 6), OUTSIDE);
        due("what -1", x.spot(0, -1), OUTSIDE);
        Checks.reads(x, "0-", 0);
        x.frames(1);
        due("no spot any more", x.spot(0, 0), UNKNOWN);
    }

    private static void track() {
        FeltGlass x = new FeltGlass();
        due("track without panel", x.track(0, 0), UNKNOWN);
        x = touchedPanel();
        due("track before a frame", x.track(0, 0), UNKNOWN);
        x.frames(1);
        int[] first = {1, 32, 32, 9, 504, 1, 0, 0, 0};
        for (int what = 0; what <= 8; what++) due("track " + what, x.track(0, what), first[what]);
        Checks.reads(x, "0@6,6*120;1@0,0*110", 2);
        x.frames(1);
        int[] moved = {1, 48, 48, 9, 504, 2, 0, 32, 0};
        for (int what = 0; what <= 8; what++) due("moved track " + what, x.track(0, what), moved[what]);
        due("second track", x.track(1, 0), 2);
        Checks.reads(x, "0-", 1);
        x.frames(1);
        due("missed", x.track(0, 6), 1);
        due("place stays", x.track(0, 1), 48);
        due("age stays", x.track(0, 5), 2);
        x.frames(1);
        due("the other one moves up", x.track(0, 0), 2);
        due("track(-1)", x.track(-1, 0), UNKNOWN);
        due("track(1)", x.track(1, 0), UNKNOWN);
        due("track(top)", x.track(TOP, 0), UNKNOWN);
        due("unknown before outside", x.track(1, 9), UNKNOWN);
        due("what 9", x.track(0, 9), OUTSIDE);
        due("what -1", x.track(0, -1), OUTSIDE);
    }

    private static void as() {
        FeltGlass x = new FeltGlass();
        due("as without panel", x.as(0, 0), UNKNOWN);
        x = touchedPanel();
        due("as before a frame", x.as(0, 0), UNKNOWN);
        x.frames(1);
        due("as finger", x.as(0, 0), 1);
        due("not as palm", x.as(0, 1), NONE);
        due("as(1)", x.as(1, 0), UNKNOWN);
        due("as(-1)", x.as(-1, 0), UNKNOWN);
        due("unknown before outside", x.as(1, 2), UNKNOWN);
        due("kind 2", x.as(0, 2), OUTSIDE);
        due("kind -1", x.as(0, -1), OUTSIDE);
        x.bound(3, 9);
        x.frames(1);
        due("not as finger", x.as(0, 0), NONE);
        due("as palm", x.as(0, 1), 1);
    }

    private static void event() {
        FeltGlass x = new FeltGlass();
        due("no event", x.event(0, 0), UNKNOWN);
        due("unknown before outside", x.event(0, 3), UNKNOWN);
        x.glass(3, 3);
        x.bound(5, 0);
        for (int i = 1; i <= 7; i++) {
            Checks.raise(x, 4, 50);
            due("down", x.frames(2), 1);
            due("sort of down", x.event(0, 0), 1);
            due("track of down", x.event(0, 1), i);
            due("frame of down", x.event(0, 2), 3 * i - 1);
            Checks.raise(x, 4, 0);
            due("tap", x.frames(1), 1);
            due("sort of tap", x.event(0, 0), 4);
            due("frame of tap", x.event(0, 2), 3 * i);
            due("kept", x.event(Math.min(11, 2 * i - 1), 0), 1);
            due("not kept", x.event(Math.min(12, 2 * i), 0), UNKNOWN);
        }
        due("the oldest kept one", x.event(11, 1), 2);
        due("event(-1)", x.event(-1, 0), UNKNOWN);
        due("event(top)", x.event(TOP, 0), UNKNOWN);
        due("event(low)", x.event(LOW, 0), UNKNOWN);
        due("what 3", x.event(11, 3), OUTSIDE);
        due("what -1", x.event(0, -1), OUTSIDE);
        x.glass(4, 4);
        due("kept from the last panel", x.event(11, 1), 2);
        Checks.raise(x, 5, 50);
        x.frames(2);
        due("frame of its panel", x.event(0, 2), 2);
        due("track of the new panel", x.event(0, 1), 8);
        due("the oldest one is gone", x.event(11, 0), 4);
    }

    private static void count() {
        FeltGlass x = new FeltGlass();
        due("count(6)", x.count(6), OUTSIDE);
        due("count(-1)", x.count(-1), OUTSIDE);
        due("count(top)", x.count(TOP), OUTSIDE);
        x.glass(5, 5);
        Checks.reads(x, "0@4,4*100", 1);
        x.frames(4);
        Checks.raise(x, 24, -60);
        x.frames(2);
        x.glass(4, 4);
        Checks.reads(x, "0@0,0*100;1@6,6*100", 2);
        x.frames(1);
        Checks.type(x, "xyz");
        x.fingers();
        int[] counts = {3, 7, 2, 3, 2, 2};
        for (int what = 0; what <= 5; what++) due("count " + what, x.count(what), counts[what]);
    }

    private static void events() {
        FeltGlass x = new FeltGlass();
        due("events(0)", x.events(0), OUTSIDE);
        due("events(5)", x.events(5), OUTSIDE);
        due("events(low)", x.events(LOW), OUTSIDE);
        x = touchedPanel();
        x.frames(2);
        x.bound(3, 9);
        x.frames(1);
        x.glass(6, 5);
        Checks.reads(x, "0@4,4*120;1@10,8*120", 2);
        x.frames(9);
        Checks.reads(x, "0-;1-", 0);
        x.frames(2);
        Checks.reads(x, "0@4,4*120", 1);
        x.frames(2);
        Checks.reads(x, "0-", 0);
        x.frames(2);
        int[] counts = {0, 4, 2, 1, 1};
        for (int sort = 1; sort <= 4; sort++) due("events " + sort, x.events(sort), counts[sort]);
    }

    private static void digest() {
        FeltGlass x = Checks.panel(3, 3);
        long h = hash(1583, 3, 3, 0, 0, 0, 0, 0, 1, 0);
        for (int finger = 0; finger < 5; finger++) h = hash(h, 0, NONE, NONE, NONE);
        for (int cell = 0; cell < 9; cell++) h = hash(h, 100, 100, 0, 0, NONE, 0);
        due("digest of a new panel", x.digest(), hash(h, 0, 0, 0, 0, 0, 1, 0, 0, 0, 0));
        Checks.raise(x, 4, 50);
        x.frames(2);
        Checks.type(x, "A~");
        h = hash(1583, 3, 3, 0, 0, 0, 1, 1, 1, 2);
        for (int finger = 0; finger < 5; finger++) h = hash(h, 0, NONE, NONE, NONE);
        for (int cell = 0; cell < 9; cell++) {
            h = cell == 4 ? hash(h, 150, 100, 150, 50, 0, 0) : hash(h, 100, 100, 100, 0, NONE, 0);
        }
        h = hash(h, 4, 1, 50, 16, 16, 1);
        h = hash(h, 1, 16, 16, 1, 50, 2, 0, 0, 0);
        h = hash(h, 1, 1, 2);
        h = hash(h, 'A', '~');
        due("digest", x.digest(), hash(h, 2, 2, 0, 1, 0, 1, 1, 0, 0, 0));
        due("digest again", x.digest(), hash(h, 2, 2, 0, 1, 0, 1, 1, 0, 0, 0));
    }

    private static void noPanelChangesNothing() {
        FeltGlass x = new FeltGlass();
        Checks.type(x, "0-");
        long before = x.digest();
        x.fault();
        x.fingers();
        x.air(0, 1);
        x.warm(1);
        x.noise(0, 1);
        x.seed(5);
        x.bound(0, 50);
        x.settle();
        x.frames(1);
        due("digest without panel", x.digest(), before);
        due("page without panel", x.count(0), 2);
        x.glass(3, 3);
        due("seed of the first panel", x.seed(1), 1);
        due("setting of the first panel", x.bound(0, 40), 40);
        due("text after the panel came", x.fingers(), 0);
    }
}
