import java.util.Random;

/** Long runs of random calls, each answer compared with that of PlainGlass. */
public final class RandomRunsTest {
    // The last step of a run may make five calls more; only 512 calls of an object have promised answers.
    private static final int RUNS = 400, CROWDED_RUNS = 200, CALLS = 507;
    private static int wrong;

    private final Random random;
    private final int run;
    private final FeltGlass real = new FeltGlass();
    private final PlainGlass plain = new PlainGlass();
    private int calls;

    private RandomRunsTest(int run) {
        this.run = run;
        random = new Random(run);
    }

    public static void main(String[] args) {
        for (int run = 0; run < RUNS && wrong < 20; run++) {
            new RandomRunsTest(run).go();
        }
        for (int run = RUNS; run < RUNS + CROWDED_RUNS && wrong < 20; run++) {
            new RandomRunsTest(run).goCrowded();
        }
        System.out.println(wrong == 0 ? "random runs agree" : wrong + " random answers differ");
        if (wrong != 0) System.exit(1);
    }

    private void go() {
        if (random.nextInt(4) > 0) {
            glass();
            if (random.nextBoolean()) prepare();
        }
        while (calls < CALLS && wrong < 20) {
            step();
            if (random.nextInt(4) == 0) same("digest()", real.digest(), plain.digest());
        }
        same("digest()", real.digest(), plain.digest());
    }

    /** Many hills of few heights on a great panel: passes, masses and ways to pair that are equal, and full tracks. */
    private void goCrowded() {
        int w = between(5, 8), h = between(5, 8);
        same("glass(" + w + ", " + h + ")", real.glass(w, h), plain.glass(w, h));
        bound(0, between(20, 40));
        bound(2, random.nextBoolean() ? between(30, 100) : 100);
        bound(3, between(3, 30));
        bound(4, between(8, 60));
        bound(5, between(0, 3));
        bound(7, random.nextInt(3));
        bound(8, 200);
        while (calls < CALLS) {
            for (int i = between(1, 12); i > 0 && calls < CALLS; i--) {
                air(between(0, w * h - 1), random.nextBoolean() ? 100 : 100 + 20 * between(1, 4));
            }
            frames(random.nextInt(4) == 0 ? 2 : 1);
            if (random.nextInt(8) == 0) bound(4, between(8, 60));
            same("digest()", real.digest(), plain.digest());
        }
    }

    private void same(String call, long got, long want) {
        calls++;
        if (got != want) {
            wrong++;
            System.out.println("run " + run + " call " + calls + ": " + call + " answered " + got + ", due is " + want);
        }
    }

    private void glass() {
        int w = between(3, 8), h = between(3, 8);
        same("glass(" + w + ", " + h + ")", real.glass(w, h), plain.glass(w, h));
    }

    /** Settings under which there are many hills, spots and tracks. */
    private void prepare() {
        bound(0, between(20, 50));
        bound(1, between(10, 30));
        bound(8, between(100, 200));
        bound(2, random.nextBoolean() ? between(1, 100) : between(90, 100));
        bound(3, random.nextBoolean() ? 64 : between(2, 12));
        bound(4, random.nextBoolean() ? between(1, 127) : between(10, 40));
        for (int drive = 0; drive < 3; drive++) noise(drive, random.nextBoolean() ? 0 : between(0, 60));
        for (int i = random.nextInt(25); i > 0; i--) air(between(0, 63), between(0, 4) * 40 + 60);
    }

    private int between(int least, int most) {
        return least + random.nextInt(most - least + 1);
    }

    /** Mostly in the range, sometimes just outside it, rarely far away. */
    private int about(int least, int most) {
        int dice = random.nextInt(60);
        if (dice == 0) return least - 1;
        if (dice == 1) return most + 1;
        if (dice == 2) return random.nextBoolean() ? Integer.MIN_VALUE : Integer.MAX_VALUE;
        if (dice < 6) return random.nextBoolean() ? least : most;
        return between(least, most);
    }

    private void bound(int what, int v) {
        same("bound(" + what + ", " + v + ")", real.bound(what, v), plain.bound(what, v));
    }

    private void noise(int drive, int v) {
        same("noise(" + drive + ", " + v + ")", real.noise(drive, v), plain.noise(drive, v));
    }

    private void air(int cell, int v) {
        same("air(" + cell + ", " + v + ")", real.air(cell, v), plain.air(cell, v));
    }

    private void frames(int n) {
        same("frames(" + n + ")", real.frames(n), plain.frames(n));
    }

    private void type(String text) {
        for (char c : text.toCharArray()) {
            if (calls < CALLS) same("letter(" + (int) c + ")", real.letter(c), plain.letter(c));
        }
    }

    private String part() {
        String digit = String.valueOf(between(0, random.nextInt(10) == 0 ? 5 : 4));
        if (random.nextInt(4) == 0) return digit + "-";
        int most = random.nextInt(10) == 0 ? 15 : 2 * Math.max(3, plain.w) - 2;
        int dice = random.nextInt(20);
        int power = dice == 0 ? between(0, 260) : dice == 1 ? between(0, 10) : between(30, 250);
        return digit + "@" + between(0, most) + "," + between(0, 2 * Math.max(3, plain.h) - 2) + "*" + power;
    }

    private void text() {
        StringBuilder text = new StringBuilder(part());
        for (int i = random.nextInt(4); i > 0; i--) text.append(';').append(part());
        int dice = random.nextInt(8);
        if (dice == 0) text.setCharAt(random.nextInt(text.length()), "0123456789@,*-; x".charAt(random.nextInt(17)));
        if (dice == 1) text.setLength(random.nextInt(text.length()));
        if (dice == 2) text.insert(random.nextInt(text.length()), '0');
        type(text.toString());
        same("fault()", real.fault(), plain.fault());
        same("fingers()", real.fingers(), plain.fingers());
        if (random.nextInt(4) > 0) same("blank()", real.blank(), plain.blank());
    }

    private void step() {
        int a, b;
        switch (random.nextInt(25)) {
            case 0: text(); break;
            case 1: a = about(32, 126); same("letter(" + a + ")", real.letter(a), plain.letter(a)); break;
            case 2: same("blank()", real.blank(), plain.blank()); break;
            case 3: same("fault()", real.fault(), plain.fault()); break;
            case 4: same("fingers()", real.fingers(), plain.fingers()); break;
            case 5: if (random.nextInt(12) == 0) glass(); else misuseGlass(); break;
            case 6: air(about(0, 30), about(0, 300)); break;
            case 7: a = about(-20, 20) * between(1, 5); same("warm(" + a + ")", real.warm(a), plain.warm(a)); break;
            case 8: noise(about(0, 2), about(0, random.nextBoolean() ? 10 : 60)); break;
            case 9: a = about(0, Integer.MAX_VALUE - 1); same("seed(" + a + ")", real.seed(a), plain.seed(a)); break;
            case 10: a = about(0, 8); b = PlainGlass.RANGES[Math.floorMod(a, 9)][1];
                bound(a, about(PlainGlass.RANGES[Math.floorMod(a, 9)][0], b)); break;
            case 11: if (random.nextInt(5) == 0) same("settle()", real.settle(), plain.settle()); break;
            case 12: case 13: frames(about(1, 20)); break;
            case 14: case 15: frames(1); break;
            default: look(); break;
        }
    }

    private void misuseGlass() {
        int bad = random.nextBoolean() ? 2 : 9, good = between(3, 8);
        same("glass(" + bad + ", " + good + ")", real.glass(bad, good), plain.glass(bad, good));
        same("glass(" + good + ", " + bad + ")", real.glass(good, bad), plain.glass(good, bad));
    }

    private void look() {
        int a = about(0, 5), b = about(0, 8);
        String both = "(" + a + ", " + b + ")";
        switch (random.nextInt(9)) {
            case 0: same("finger" + both, real.finger(a, b), plain.finger(a, b)); break;
            case 1: a = about(0, 63); same("cell(" + a + ", " + b + ")", real.cell(a, b), plain.cell(a, b)); break;
            case 2: same("about(" + b + ")", real.about(b), plain.about(b)); break;
            case 3: same("spot" + both, real.spot(a, b), plain.spot(a, b)); break;
            case 4: same("track" + both, real.track(a, b), plain.track(a, b)); break;
            case 5: b = about(0, 1); same("as(" + a + ", " + b + ")", real.as(a, b), plain.as(a, b)); break;
            case 6: a = about(0, 11); b = about(0, 2);
                same("event(" + a + ", " + b + ")", real.event(a, b), plain.event(a, b)); break;
            case 7: same("count(" + a + ")", real.count(a), plain.count(a)); break;
            default: same("events(" + a + ")", real.events(a), plain.events(a)); break;
        }
    }
}
