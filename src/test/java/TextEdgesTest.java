/** The boundary cases that THE TEXT OF FINGERS and promises 2 to 5 name, a test for each sentence. */
public final class TextEdgesTest {
    private static final int OUTSIDE = Checks.OUTSIDE, STATE = Checks.STATE, FULL = Checks.FULL;
    private static final int LOW = Integer.MIN_VALUE, TOP = Integer.MAX_VALUE;
    private static final String PAGE = "THE TEXT OF FINGERS";
    private static final String LETTER = "Promise 2", BLANK = "Promise 3", FAULT = "Promise 4", FINGERS = "Promise 5";
    private static final String DIGITS = "0123456789";
    /** A whole text of exactly 40 characters. */
    private static final String FORTY = "0@1,10*100;1@11,11*110;2@12,12*120;3-;4-";

    public static void main(String[] args) {
        pageEmptyAtFirst();
        pageOfFortyCharacters();
        oneOrMoreParts();
        semicolons();
        digitOfAFinger();
        minusOrPlace();
        leadingZeros();
        zeroForUAndV();
        rangesOnEveryPanel();
        powerRange();
        lastPartCounts();
        letterCodes();
        letterOutside();
        letterNewLength();
        letterOnAFullPage();
        letterErrorsInOrder();
        blankAnswersTheLength();
        blankEmptiesThePageAlone();
        faultForThePresentPanel();
        faultIsTheFirstOne();
        faultCountsFromZero();
        faultOfAnEmptyPage();
        faultOfAFullPage();
        faultOfATextNotComplete();
        faultOfAGreatNumber();
        faultOfASmallPower();
        faultWithoutPanel();
        faultChangesNothing();
        fingersThatDoNotOccur();
        fingersLeavesThePageEmpty();
        fingersOnThen();
        fingersWithoutPanel();
        fingersOfNoSuchText();
        Checks.end();
    }

    private static void sentence(String where, String words) {
        Checks.sentence(where, words);
    }

    private static void due(String call, long got, long want) {
        Checks.due(call, got, want);
    }

    /** A new object with a panel and this page. */
    private static FeltGlass typed(int wide, int high, String text) {
        FeltGlass x = new FeltGlass();
        x.glass(wide, high);
        Checks.type(x, text);
        return x;
    }

    private static void faultOf(int wide, int high, String text, int want) {
        due("fault() of " + text + " on " + wide + " by " + high, typed(wide, high, text).fault(), want);
    }

    private static void read(int wide, int high, String text, int want) {
        due("fingers() of " + text + " on " + wide + " by " + high, typed(wide, high, text).fingers(), want);
    }

    private static void refused(int wide, int high, String text) {
        Checks.refuses(Checks.panel(wide, high), text);
    }

    /** After this beginning, which has no fault, exactly these characters of all can stand. */
    private static void canStand(int wide, int high, String beginning, String characters) {
        faultOf(wide, high, beginning, beginning.length());
        for (char c = 32; c <= 126; c++) {
            boolean can = characters.indexOf(c) >= 0;
            faultOf(wide, high, beginning + c, beginning.length() + (can ? 1 : 0));
        }
    }

    // ---- THE TEXT OF FINGERS

    private static void pageEmptyAtFirst() {
        sentence(PAGE, "The page is a text of at most 40 characters, empty at first.");
        due("count(0)", new FeltGlass().count(0), 0);
        due("blank()", new FeltGlass().blank(), 0);
        due("letter(65)", new FeltGlass().letter(65), 1);
        due("fault()", Checks.panel(3, 3).fault(), 0);
        due("fingers()", Checks.panel(3, 3).fingers(), STATE);
    }

    private static void pageOfFortyCharacters() {
        sentence(PAGE, "The page is a text of at most 40 characters, empty at first.");
        FeltGlass x = Checks.panel(8, 8);
        Checks.type(x, FORTY);
        due("count(0) of 40", x.count(0), 40);
        due("the 41st letter", x.letter(';'), FULL);
        due("count(0) after the 41st letter", x.count(0), 40);
        due("fingers() of 40 characters", x.fingers(), 3);
        due("power in the first part", x.finger(0, 3), 100);
        due("u in the third part", x.finger(2, 1), 12);
    }

    private static void oneOrMoreParts() {
        sentence(PAGE, "It consists of one or more parts, separated by semicolons.");
        refused(3, 3, "");
        read(3, 3, "0-", 0);
        read(3, 3, "0@0,0*10", 1);
        read(3, 3, "0-;1-;2-;3-;4-;0-;1-;2-;3-;4-;0-;1-;2-", 0);
        read(3, 3, "0@0,0*10;1@1,1*10;2@2,2*10;3@3,3*10;4-", 4);
    }

    private static void semicolons() {
        sentence(PAGE, "It consists of one or more parts, separated by semicolons.");
        String[] wrong = {";", ";0-", "0-;", "0-;;1-", "0-1-", "0-,1-", "0- 1-", "0@0,0*10;", "0@0,0*101-", "0-:1-"};
        for (String text : wrong) refused(3, 3, text);
        canStand(3, 3, "0-", ";");
        canStand(3, 3, "0-;", "01234");
        canStand(3, 3, "0-;1@0,0*10;", "01234");
    }

    private static void digitOfAFinger() {
        sentence(PAGE, "A part is the digit of a finger, 0 to 4");
        canStand(3, 3, "", "01234");
        for (int finger = 0; finger <= 4; finger++) {
            FeltGlass x = typed(3, 3, finger + "@1,2*30");
            due("fingers() with finger " + finger, x.fingers(), 1);
            for (int other = 0; other <= 4; other++) due("on", x.finger(other, 0), other == finger ? 1 : 0);
        }
        refused(3, 3, "5-");
        refused(3, 3, "5@0,0*10");
        refused(3, 3, "00-");
        refused(3, 3, "-");
    }

    private static void minusOrPlace() {
        sentence(PAGE, "followed by a minus sign if the finger is off, or by @, u, a comma, v, an asterisk and the"
            + " power");
        for (int finger = 0; finger <= 4; finger++) canStand(3, 3, String.valueOf(finger), "-@");
        canStand(8, 8, "0@7", ",");
        canStand(8, 8, "0@7,7", "*");
        canStand(8, 8, "0@7,7*99", ";");
        String[] wrong = {"0@", "0@1", "0@1,", "0@1,1", "0@1,1*", "0@,1*10", "0@1,*10", "0@1*10", "0@1,1,1*10", "0@-",
            "0-@1,1*10", "0@1,1*10-", "0@1,1*-10", "0@-1,1*10", "0@+1,1*10", "0@ 1,1*10", "0@1,1*10 ", " 0-", "0--"};
        for (String text : wrong) refused(8, 8, text);
    }

    private static void leadingZeros() {
        sentence(PAGE, "Numbers have no leading zeros");
        canStand(8, 8, "0@0", ",");
        canStand(8, 8, "0@1,0", "*");
        faultOf(8, 8, "0@00", 3);
        faultOf(8, 8, "0@01,1*10", 3);
        faultOf(8, 8, "0@1,00", 5);
        faultOf(8, 8, "0@1,014*10", 5);
        faultOf(8, 8, "0@1,1*010", 7);
        faultOf(8, 8, "0@1,1*00", 7);
        String[] wrong = {"00-", "0@00,1*10", "0@01,1*10", "0@1,00*10", "0@1,01*10", "0@1,1*010", "0@1,1*0250"};
        for (String text : wrong) refused(8, 8, text);
    }

    private static void zeroForUAndV() {
        sentence(PAGE, "(0 itself is allowed for u and v)");
        FeltGlass x = typed(3, 3, "2@0,0*10");
        due("fault()", x.fault(), 8);
        due("fingers()", x.fingers(), 1);
        due("u", x.finger(2, 1), 0);
        due("v", x.finger(2, 2), 0);
        refused(3, 3, "2@0,0*0");
    }

    private static void rangesOnEveryPanel() {
        sentence("THE PANEL", "with u from 0 to 2 * W - 2 and v from 0 to 2 * H - 2");
        for (int wide = 3; wide <= 8; wide++) {
            for (int high = 3; high <= 8; high++) {
                int mostU = 2 * wide - 2, mostV = 2 * high - 2;
                FeltGlass x = typed(wide, high, "0@0,0*10;1@" + mostU + "," + mostV + "*250");
                due("fingers() at both ends", x.fingers(), 2);
                due("least u", x.finger(0, 1), 0);
                due("least v", x.finger(0, 2), 0);
                due("most u", x.finger(1, 1), mostU);
                due("most v", x.finger(1, 2), mostV);
                String farU = "1@" + (mostU + 1), farV = "1@" + mostU + "," + (mostV + 1);
                refused(wide, high, farU + ",0*10");
                refused(wide, high, farV + "*10");
                faultOf(wide, high, farU + ",0*10", farU.length() - 1);
                faultOf(wide, high, farV + "*10", farV.length() - 1);
            }
        }
    }

    private static void powerRange() {
        sentence("THE PANEL", "with a power from 10 to 250");
        for (int power = 0; power <= 1000; power++) {
            FeltGlass x = typed(3, 3, "0@0,0*" + power);
            boolean right = power >= 10 && power <= 250;
            due("fingers() with power " + power, x.fingers(), right ? 1 : STATE);
            due("power " + power, x.finger(0, 3), right ? power : Checks.NONE);
        }
    }

    private static void lastPartCounts() {
        sentence(PAGE, "If a finger occurs several times, the last part counts.");
        FeltGlass x = typed(3, 3, "3@1,1*20;3@2,4*30");
        due("on and on", x.fingers(), 1);
        due("u", x.finger(3, 1), 2);
        due("v", x.finger(3, 2), 4);
        due("power", x.finger(3, 3), 30);
        x = typed(3, 3, "3@1,1*20;3-");
        due("on and off", x.fingers(), 0);
        due("off", x.finger(3, 1), Checks.NONE);
        x = typed(3, 3, "3-;3@1,2*20");
        due("off and on", x.fingers(), 1);
        due("v", x.finger(3, 2), 2);
        x = typed(3, 3, "3-;4-;3@1,2*20;4@0,0*10;3-;3@4,4*11");
        due("six parts", x.fingers(), 2);
        due("u", x.finger(3, 1), 4);
    }

    // ---- Promise 2: letter

    private static void letterCodes() {
        sentence(LETTER, "its code, 32 to 126");
        for (int code = -300; code <= 1000; code++) {
            FeltGlass x = new FeltGlass();
            boolean right = code >= 32 && code <= 126;
            due("letter(" + code + ")", x.letter(code), right ? 1 : OUTSIDE);
            due("count(0) after letter(" + code + ")", x.count(0), right ? 1 : 0);
            long page = right ? Checks.hash(1583, code, 1) : Checks.hash(1583, 0);
            due("digest() after letter(" + code + ")", x.digest(), Checks.hash(page, 0, 0, 0, 0, 0, 0, 0, 0, 0));
        }
    }

    private static void letterOutside() {
        sentence(LETTER, "OUTSIDE if code is out of range");
        // Some become a right code if they are cut short.
        int[] far = {31, 127, 0, -1, LOW, TOP, LOW + 48, 65536 + 48, 256 + 48, -65536 + 48, -48};
        FeltGlass x = new FeltGlass();
        for (int code : far) due("letter(" + code + ")", x.letter(code), OUTSIDE);
        due("the first letter", x.letter(48), 1);
        for (int code : far) due("letter(" + code + ")", x.letter(code), OUTSIDE);
        due("the second letter", x.letter(48), 2);
    }

    private static void letterNewLength() {
        sentence(LETTER, "Returns the new length of the page");
        FeltGlass x = new FeltGlass();
        for (int length = 1; length <= 40; length++) due("letter " + length, x.letter(31 + length), length);
        x.blank();
        due("letter after blank()", x.letter(32), 1);
    }

    private static void letterOnAFullPage() {
        sentence(LETTER, "FULL if the page has 40 characters already");
        FeltGlass x = new FeltGlass();
        for (int length = 1; length <= 39; length++) x.letter(126);
        due("the 40th letter", x.letter(126), 40);
        long before = x.digest();
        due("the 41st letter", x.letter(32), FULL);
        due("the 42nd letter", x.letter(126), FULL);
        due("digest()", x.digest(), before);
        due("blank()", x.blank(), 40);
        due("a letter after blank()", x.letter(126), 1);
    }

    private static void letterErrorsInOrder() {
        sentence("ERRORS", "the first one that applies is returned");
        FeltGlass x = new FeltGlass();
        for (int length = 1; length <= 40; length++) x.letter(65);
        due("letter(31) on a full page", x.letter(31), OUTSIDE);
        due("letter(127) on a full page", x.letter(127), OUTSIDE);
    }

    // ---- Promise 3: blank

    private static void blankAnswersTheLength() {
        sentence(BLANK, "Returns the length that it had.");
        for (int length = 0; length <= 40; length++) {
            FeltGlass x = new FeltGlass();
            for (int i = 0; i < length; i++) x.letter(65);
            due("blank() of " + length, x.blank(), length);
            due("blank() again", x.blank(), 0);
            due("count(0)", x.count(0), 0);
        }
    }

    private static void blankEmptiesThePageAlone() {
        sentence(BLANK, "Empties the page.");
        FeltGlass x = Checks.panel(3, 3), twin = Checks.panel(3, 3);
        for (FeltGlass each : new FeltGlass[] {x, twin}) {
            Checks.reads(each, "0@2,2*60", 1);
            each.frames(3);
        }
        Checks.type(x, FORTY);
        x.blank();
        due("digest()", x.digest(), twin.digest());
        due("fault() of the page that was emptied", x.fault(), 0);
        due("fingers() of the page that was emptied", x.fingers(), STATE);
    }

    // ---- Promise 4: fault

    private static void faultForThePresentPanel() {
        sentence(FAULT, "Checks the page as a text of fingers for the present panel.");
        FeltGlass x = typed(8, 8, "0@14,14*10");
        due("on 8 by 8", x.fault(), 10);
        x.glass(8, 3);
        due("on 8 by 3", x.fault(), 6);
        x.glass(3, 8);
        due("on 3 by 8", x.fault(), 3);
        x.glass(7, 8);
        due("on 7 by 8", x.fault(), 3);
        x.glass(8, 7);
        due("on 8 by 7", x.fault(), 6);
        x.glass(8, 8);
        due("on 8 by 8 again", x.fault(), 10);
    }

    private static void faultIsTheFirstOne() {
        sentence(FAULT, "of the first character that cannot stand there after those before it");
        faultOf(3, 3, "9999", 0);
        faultOf(3, 3, "0x;x", 1);
        faultOf(3, 3, "0-x;9", 2);
        faultOf(3, 3, "0@5,5*300", 2);
        faultOf(3, 3, "0@4,5*300", 4);
        faultOf(3, 3, "0@4,4*300;5", 8);
        canStand(8, 8, "0@", DIGITS);
        canStand(3, 8, "0@", "01234");
        canStand(8, 8, "0@1", "01234,");
        canStand(6, 8, "0@1", "0,");
        canStand(5, 8, "0@1", ",");
        canStand(8, 8, "0@2", ",");
        canStand(8, 8, "0@14", ",");
        canStand(8, 3, "0@14,", "01234");
        canStand(8, 8, "0@14,", DIGITS);
        canStand(8, 7, "0@14,1", "012*");
        canStand(8, 6, "0@14,1", "0*");
        canStand(8, 5, "0@14,1", "*");
        canStand(8, 8, "0@14,14", "*");
    }

    private static void faultCountsFromZero() {
        sentence(FAULT, "Returns the position, from 0");
        for (int parts = 0; parts <= 13; parts++) {
            faultOf(3, 3, "4-;".repeat(parts) + "5", 3 * parts);
            if (parts < 13) faultOf(3, 3, "4-;".repeat(parts) + "4;", 3 * parts + 1);
        }
    }

    private static void faultOfAnEmptyPage() {
        sentence(FAULT, "the length of the page if there is none");
        due("fault() of an empty page", Checks.panel(3, 3).fault(), 0);
        FeltGlass x = typed(3, 3, "x");
        due("fault() of x", x.fault(), 0);
        x.blank();
        due("fault() after blank()", x.fault(), 0);
        Checks.type(x, "0");
        due("fault() of 0", x.fault(), 1);
    }

    private static void faultOfAFullPage() {
        sentence(FAULT, "the length of the page if there is none");
        faultOf(8, 8, FORTY, 40);
        faultOf(8, 8, FORTY.substring(0, 39) + "x", 39);
        faultOf(8, 8, FORTY.substring(0, 39) + "@", 40);
        faultOf(3, 3, "0-;".repeat(13) + "0", 40);
        faultOf(3, 3, "0-;".repeat(13) + "5", 39);
        faultOf(3, 3, "x".repeat(40), 0);
    }

    private static void faultOfATextNotComplete() {
        sentence(FAULT, "(also if the text is not yet complete)");
        String[] whole = {FORTY, "0@14,14*250;1-;2@0,0*10", "4@9,10*99;4-", "0-;1-;2-;3-;4-"};
        for (String text : whole) {
            for (int length = 0; length <= text.length(); length++) faultOf(8, 8, text.substring(0, length), length);
        }
    }

    private static void faultOfAGreatNumber() {
        sentence(FAULT, "For a number that is too great, this is the digit by which it becomes too great");
        faultOf(3, 3, "0@5", 2);
        faultOf(3, 3, "0@9,0*10", 2);
        faultOf(3, 3, "0@10", 3);
        faultOf(3, 3, "0@40", 3);
        faultOf(5, 3, "0@9", 2);
        faultOf(5, 3, "0@10", 3);
        faultOf(6, 3, "0@11", 3);
        faultOf(8, 3, "0@15", 3);
        faultOf(8, 3, "0@100", 4);
        faultOf(8, 3, "0@140", 4);
        faultOf(3, 8, "0@0,15", 5);
        faultOf(3, 8, "0@0,90", 5);
        faultOf(3, 8, "0@0,111", 6);
        faultOf(3, 3, "0@0,0*251", 8);
        faultOf(3, 3, "0@0,0*260", 8);
        faultOf(3, 3, "0@0,0*300", 8);
        faultOf(3, 3, "0@0,0*999", 8);
        faultOf(3, 3, "0@0,0*1000", 9);
        faultOf(3, 3, "0@0,0*2500", 9);
        // Numbers that would not fit an int.
        faultOf(8, 8, "0@" + "1".repeat(38), 4);
        faultOf(8, 8, "0@0,0*" + "2".repeat(34), 9);
        faultOf(8, 8, "0@0,0*4294967396", 8);
        canStand(3, 3, "0@0,0*25", "0;");
        canStand(3, 3, "0@0,0*24", DIGITS + ";");
        canStand(3, 3, "0@0,0*26", ";");
        canStand(3, 3, "0@0,0*250", ";");
        canStand(3, 3, "0@0,0*100", ";");
    }

    private static void faultOfASmallPower() {
        sentence(FAULT, "for a power that is too small, it is the character after it, or the end of the page");
        for (int power = 0; power <= 9; power++) {
            faultOf(3, 3, "0@0,0*" + power, 7);
            faultOf(3, 3, "0@0,0*" + power + ";1-", 7);
            faultOf(3, 3, "1-;0@0,0*" + power + ";", 10);
            canStand(3, 3, "0@0,0*" + power, power == 0 ? "" : DIGITS);
        }
        canStand(3, 3, "0@0,0*", DIGITS);
        canStand(3, 3, "0@0,0*10", DIGITS + ";");
        faultOf(3, 3, "0-;".repeat(11) + "0@0,0*9", 40);
        faultOf(3, 3, "0-;".repeat(10) + "0@0,0*9;0-", 37);
    }

    private static void faultWithoutPanel() {
        sentence(FAULT, "STATE if there is no panel.");
        for (String text : new String[] {"", "0-", "x", "0@0,0*10"}) {
            FeltGlass x = new FeltGlass();
            Checks.type(x, text);
            due("fault() of " + text, x.fault(), STATE);
            due("blank() after fault()", x.blank(), text.length());
        }
    }

    private static void faultChangesNothing() {
        sentence(FAULT, "Checks the page as a text of fingers for the present panel.");
        for (String text : new String[] {"", "0-", "1@0,0*20", "1@0,0*20;x", "0-;"}) {
            FeltGlass x = Checks.panel(3, 3);
            Checks.reads(x, "0@2,2*60", 1);
            Checks.type(x, text);
            long before = x.digest();
            x.fault();
            due("digest() after fault() of " + text, x.digest(), before);
        }
    }

    // ---- Promise 5: fingers

    private static void fingersThatDoNotOccur() {
        sentence(FINGERS, "fingers that do not occur in it stay as they are");
        FeltGlass x = Checks.panel(8, 8);
        Checks.reads(x, "1@2,3*50;4@14,14*250", 2);
        Checks.reads(x, "0@0,0*10", 3);
        int[][] facts = {{1, 0, 0, 10}, {1, 2, 3, 50}, {0, -1, -1, -1}, {0, -1, -1, -1}, {1, 14, 14, 250}};
        for (int finger = 0; finger <= 4; finger++) {
            for (int what = 0; what <= 3; what++) due("finger", x.finger(finger, what), facts[finger][what]);
        }
        Checks.reads(x, "2-", 3);
        Checks.reads(x, "1-", 2);
        due("0 stays on", x.finger(0, 3), 10);
        due("4 stays on", x.finger(4, 3), 250);
    }

    private static void fingersLeavesThePageEmpty() {
        sentence(FINGERS, "The page is empty then.");
        for (String text : new String[] {"0-", "0@0,0*10", FORTY}) {
            FeltGlass x = typed(8, 8, text);
            x.fingers();
            due("count(0) after " + text, x.count(0), 0);
            due("fault() after " + text, x.fault(), 0);
            due("fingers() again", x.fingers(), STATE);
            due("letter() after " + text, x.letter(48), 1);
        }
    }

    private static void fingersOnThen() {
        sentence(FINGERS, "Returns how many of the five fingers are on then");
        FeltGlass x = Checks.panel(3, 3);
        Checks.reads(x, "0-", 0);
        for (int finger = 0; finger <= 4; finger++) Checks.reads(x, finger + "@0,0*10", finger + 1);
        Checks.reads(x, "2@4,4*20", 5);
        for (int finger = 4; finger >= 0; finger--) Checks.reads(x, finger + "-", finger);
        Checks.reads(x, "0-;1-;2-;3-;4-", 0);
    }

    private static void fingersWithoutPanel() {
        sentence(FINGERS, "STATE if there is no panel");
        for (String text : new String[] {"", "0-", "x", FORTY}) {
            FeltGlass x = new FeltGlass();
            Checks.refuses(x, text);
            due("texts that were read", x.count(4), 0);
        }
        FeltGlass x = new FeltGlass();
        Checks.type(x, "0@0,0*10");
        x.fingers();
        x.glass(3, 3);
        due("the text that stayed", x.fingers(), 1);
    }

    private static void fingersOfNoSuchText() {
        sentence(FINGERS, "or the page is not such a text (the page stays then)");
        String[] whole = {"0@14,14*250;1-;2@0,0*10", FORTY, "4@9,10*99;4-"};
        for (String text : whole) {
            for (int length = 0; length < text.length(); length++) {
                String cut = text.substring(0, length);
                if (!cut.matches(".*(-|\\*[0-9]{2,3})")) refused(8, 8, cut);
            }
        }
        FeltGlass x = Checks.panel(3, 3);
        Checks.reads(x, "0@2,2*60;1@0,0*30", 2);
        Checks.refuses(x, "0-;1@4,4*20;2@0,0*20;5-");
        Checks.refuses(x, "0@0,0*9");
        due("0 stays", x.finger(0, 3), 60);
        due("1 stays", x.finger(1, 1), 0);
        due("2 stays off", x.finger(2, 0), 0);
        due("texts that were read", x.count(4), 1);
        Checks.type(x, "0");
        due("fingers() of 0", x.fingers(), STATE);
        due("a letter is appended to the page that stayed", x.letter('-'), 2);
        due("fingers() of 0-", x.fingers(), 1);
    }
}
