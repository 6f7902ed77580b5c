import java.util.ArrayList;
import java.util.List;
import java.util.TreeSet;

/**
 * The document once more, in the slowest and plainest form, so that FeltGlass can be compared with it:
 * sets of cells, all texts by trying, all pairings by enumeration.
 */
final class PlainGlass {
    static final int NONE = -1, UNKNOWN = -10001, OUTSIDE = -10002, STATE = -10003, FULL = -10004;
    static final int[][] RANGES = {
        {20, 200, 40}, {10, 100, 20}, {1, 100, 80}, {2, 64, 10}, {1, 127, 24}, {0, 9, 1}, {1, 30, 6}, {0, 50, 2},
        {0, 200, 30}};

    static final class Spot {
        int peak, mass, x, y, track = NONE;
        TreeSet<Integer> cells = new TreeSet<>();
    }

    static final class Track {
        int id, x, y, size, mass, age, missed, path;
        boolean palm;
        int spot = NONE;
    }

    String page = "";
    boolean panel;
    int w, h, drive, spread, frames;
    boolean noisy;
    long seed;
    int[] background, baseline, raw, delta, levels, settings;
    int[][] hand;
    List<Spot> spots = new ArrayList<>();
    List<Track> tracks = new ArrayList<>();
    List<int[]> log = new ArrayList<>();
    int allFrames, allNoisy, begun, texts, panels;

    int letter(int code) {
        if (code < 32 || code > 126) return OUTSIDE;
        if (page.length() == 40) return FULL;
        page += (char) code;
        return page.length();
    }

    int blank() {
        int before = page.length();
        page = "";
        return before;
    }

    int fault() {
        if (!panel) return STATE;
        for (int p = 0; p < page.length(); p++) {
            if (!viable(page.substring(0, p + 1))) return p;
        }
        return page.length();
    }

    int fingers() {
        if (!panel || page.isEmpty() || page.endsWith(";")) return STATE;
        String[] parts = page.split(";", -1);
        for (String part : parts) {
            if (!part.matches("[0-4](-|@[0-9]{1,2},[0-9]{1,2}\\*[0-9]{2,3})") || !viable(part)) return STATE;
        }
        for (String part : parts) {
            String[] numbers = part.substring(1).split("[@,*]");
            hand[part.charAt(0) - '0'] = part.endsWith("-") ? null : new int[] {
                Integer.parseInt(numbers[1]), Integer.parseInt(numbers[2]), Integer.parseInt(numbers[3])};
        }
        page = "";
        texts++;
        int on = 0;
        for (int[] finger : hand) on += finger == null ? 0 : 1;
        return on;
    }

    private boolean viable(String text) {
        String[] parts = text.split(";", -1);
        for (int i = 0; i < parts.length; i++) {
            boolean last = i == parts.length - 1;
            if (!begins(parts[i], List.of(numbers(0, 4), List.of("-")), 0, last)
                    && !begins(parts[i], List.of(numbers(0, 4), List.of("@"), numbers(0, 2 * w - 2), List.of(","),
                        numbers(0, 2 * h - 2), List.of("*"), powers(last)), 0, last)) {
                return false;
            }
        }
        return true;
    }

    /** Whether the text is (or, where it may be cut off, begins) a joining of one member of each set. */
    private static boolean begins(String text, List<List<String>> sets, int from, boolean cut) {
        if (from == sets.size()) return text.isEmpty();
        for (String member : sets.get(from)) {
            if (cut && member.startsWith(text)) return true;
            if (text.startsWith(member) && begins(text.substring(member.length()), sets, from + 1, cut)) return true;
        }
        return false;
    }

    private static List<String> numbers(int least, int most) {
        List<String> all = new ArrayList<>();
        for (int n = least; n <= most; n++) all.add(Integer.toString(n));
        return all;
    }

    /** A power that is too small may stand as long as nothing comes after it: 1 to 9 begin greater ones, 0 none. */
    private static List<String> powers(boolean cut) {
        List<String> all = numbers(10, 250);
        if (cut) all.add("0");
        return all;
    }

    int glass(int wide, int high) {
        if (wide < 3 || wide > 8 || high < 3 || high > 8) return OUTSIDE;
        panel = true;
        w = wide;
        h = high;
        drive = spread = frames = 0;
        noisy = false;
        seed = 1;
        background = new int[w * h];
        java.util.Arrays.fill(background, 100);
        baseline = background.clone();
        raw = new int[w * h];
        delta = new int[w * h];
        levels = new int[3];
        settings = new int[9];
        for (int i = 0; i < 9; i++) settings[i] = RANGES[i][2];
        hand = new int[5][];
        spots.clear();
        tracks.clear();
        panels++;
        return w * h;
    }

    private boolean noCell(int cell) {
        return !panel || cell < 0 || cell >= w * h;
    }

    int air(int cell, int v) {
        if (noCell(cell)) return UNKNOWN;
        if (v < 0 || v > 999) return OUTSIDE;
        int before = background[cell];
        background[cell] = v;
        return before;
    }

    int warm(int by) {
        if (!panel) return STATE;
        if (by < -99 || by > 99) return OUTSIDE;
        int changed = 0;
        for (int c = 0; c < w * h; c++) {
            int before = background[c];
            background[c] += by;
            if (background[c] < 0) background[c] = 0;
            if (background[c] > 999) background[c] = 999;
            if (background[c] != before) changed++;
        }
        return changed;
    }

    int noise(int which, int v) {
        if (!panel) return STATE;
        if (which < 0 || which > 2 || v < 0 || v > 60) return OUTSIDE;
        int before = levels[which];
        levels[which] = v;
        return before;
    }

    int seed(int v) {
        if (!panel) return STATE;
        if (v < 0) return OUTSIDE;
        int before = (int) seed;
        seed = v;
        return before;
    }

    int bound(int what, int v) {
        if (!panel) return STATE;
        if (what < 0 || what > 8 || v < RANGES[what][0] || v > RANGES[what][1]) return OUTSIDE;
        int before = settings[what];
        settings[what] = v;
        return before;
    }

    int settle() {
        if (!panel) return STATE;
        int changed = 0;
        for (int c = 0; c < w * h; c++) {
            if (baseline[c] != background[c]) changed++;
        }
        baseline = background.clone();
        return changed;
    }

    int frames(int n) {
        if (!panel) return STATE;
        if (n < 1 || n > 20) return OUTSIDE;
        int before = log.size();
        for (int i = 0; i < n; i++) frame();
        return log.size() - before;
    }

    private int sensed(int cell) {
        int x = cell % w, y = cell / w, sum = 0;
        for (int[] f : hand) {
            if (f != null) {
                int felt = f[2] - 12 * ((2 * x - f[0]) * (2 * x - f[0]) + (2 * y - f[1]) * (2 * y - f[1]));
                if (felt > 0) sum += felt;
            }
        }
        return sum;
    }

    private boolean neighbours(int a, int b) {
        return a != b && Math.abs(a % w - b % w) <= 1 && Math.abs(a / w - b / w) <= 1;
    }

    private void frame() {
        frames++;
        allFrames++;
        TreeSet<Integer> touched = new TreeSet<>();
        for (int c = 0; c < w * h; c++) {
            raw[c] = background[c] + sensed(c);
            int n = levels[drive];
            if (n > 0) {
                seed = (1103515245L * seed + 12345) % 2147483648L;
                raw[c] += (int) ((seed / 65536) % (2 * n + 1)) - n;
            }
            delta[c] = raw[c] - baseline[c];
            if (delta[c] >= settings[1]) touched.add(c);
        }
        TreeSet<Integer> quiet = new TreeSet<>();
        for (int c = 0; c < w * h; c++) {
            boolean near = touched.contains(c);
            for (int t : touched) near |= neighbours(c, t);
            if (!near) quiet.add(delta[c]);
        }
        spread = quiet.isEmpty() ? 0 : quiet.last() - quiet.first();
        spots.clear();
        noisy = spread > settings[8];
        if (noisy) {
            allNoisy++;
            drive = (drive + 1) % 3;
            return;
        }
        findSpots(hills(touched));
        assign();
        followTracks();
        beginTracks();
        moveBaselines();
    }

    private List<Spot> hills(TreeSet<Integer> touched) {
        List<Spot> hills = new ArrayList<>();
        for (int t : touched) {
            int at = t;
            while (true) {
                int best = -1;
                for (int c = 0; c < w * h; c++) {
                    if ((c == at || neighbours(c, at)) && (best < 0 || delta[c] > delta[best])) best = c;
                }
                if (best == at) break;
                at = best;
            }
            Spot home = null;
            for (Spot hill : hills) if (hill.peak == at) home = hill;
            if (home == null) {
                home = new Spot();
                home.peak = at;
                hills.add(home);
            }
            home.cells.add(t);
        }
        while (mergeOnce(hills)) {
            hills.sort((a, b) -> a.peak - b.peak);
        }
        hills.sort((a, b) -> a.peak - b.peak);
        return hills;
    }

    private int pass(Spot a, Spot b) {
        int best = NONE;
        for (int c : a.cells) {
            for (int d : b.cells) {
                if (neighbours(c, d)) best = Math.max(best, Math.min(delta[c], delta[d]));
            }
        }
        return best;
    }

    private boolean mergeOnce(List<Spot> hills) {
        Spot one = null, other = null;
        int best = NONE;
        for (Spot a : hills) {
            for (Spot b : hills) {
                if (a.peak >= b.peak) continue;
                int pass = pass(a, b);
                if (pass == NONE || 100 * pass < settings[2] * Math.min(delta[a.peak], delta[b.peak])) continue;
                boolean better = one == null || pass > best
                    || pass == best && (a.peak < one.peak || a.peak == one.peak && b.peak < other.peak);
                if (better) {
                    best = pass;
                    one = a;
                    other = b;
                }
            }
        }
        if (one == null) return false;
        if (delta[other.peak] > delta[one.peak]) one.peak = other.peak;
        one.cells.addAll(other.cells);
        hills.remove(other);
        return true;
    }

    private void findSpots(List<Spot> hills) {
        for (Spot hill : hills) {
            if (delta[hill.peak] < settings[0]) continue;
            int sumX = 0, sumY = 0;
            for (int c : hill.cells) {
                hill.mass += delta[c];
                sumX += 16 * (c % w) * delta[c];
                sumY += 16 * (c / w) * delta[c];
            }
            hill.x = sumX / hill.mass;
            hill.y = sumY / hill.mass;
            spots.add(hill);
        }
        spots.sort((a, b) -> a.mass != b.mass ? b.mass - a.mass : a.peak - b.peak);
        while (spots.size() > 6) spots.remove(6);
        spots.sort((a, b) -> a.peak - b.peak);
    }

    private int[] bestWay;
    private int bestPairs, bestSum;

    private void assign() {
        bestWay = null;
        tryWays(new int[tracks.size()], 0, 0, 0);
        for (int t = 0; t < tracks.size(); t++) tracks.get(t).spot = bestWay[t];
    }

    /** Goes through all ways in lexicographic order, so that the first of the best ones stays. */
    private void tryWays(int[] way, int t, int pairs, int sum) {
        if (t == way.length) {
            if (bestWay == null || pairs > bestPairs || pairs == bestPairs && sum < bestSum) {
                bestWay = way.clone();
                bestPairs = pairs;
                bestSum = sum;
            }
            return;
        }
        Track track = tracks.get(t);
        for (int s = 0; s < spots.size(); s++) {
            boolean free = true;
            for (int i = 0; i < t; i++) free &= way[i] != s;
            int dx = track.x - spots.get(s).x, dy = track.y - spots.get(s).y;
            if (free && Math.abs(dx) <= settings[4] && Math.abs(dy) <= settings[4]) {
                way[t] = s;
                tryWays(way, t + 1, pairs + 1, sum + dx * dx + dy * dy);
            }
        }
        way[t] = NONE;
        tryWays(way, t + 1, pairs, sum);
    }

    private void followTracks() {
        for (Track t : new ArrayList<>(tracks)) {
            if (t.spot == NONE) {
                t.missed++;
                if (t.missed > settings[5]) {
                    tracks.remove(t);
                    if (!t.palm && t.age > 1) {
                        log.add(new int[] {t.age <= settings[6] && t.path <= 16 ? 4 : 2, t.id, frames});
                    }
                }
                continue;
            }
            Spot s = spots.get(t.spot);
            s.track = t.id;
            t.path += Math.abs(s.x - t.x) + Math.abs(s.y - t.y);
            copy(s, t);
            t.age++;
            t.missed = 0;
            if (!t.palm && t.size >= settings[3]) {
                t.palm = true;
                if (t.age > 2) log.add(new int[] {3, t.id, frames});
            }
            if (t.age == 2 && !t.palm) log.add(new int[] {1, t.id, frames});
        }
    }

    private static void copy(Spot s, Track t) {
        t.x = s.x;
        t.y = s.y;
        t.size = s.cells.size();
        t.mass = s.mass;
    }

    private void beginTracks() {
        for (Spot s : spots) {
            if (s.track != NONE || tracks.size() >= 6) continue;
            Track t = new Track();
            t.id = s.track = ++begun;
            copy(s, t);
            t.age = 1;
            t.palm = t.size >= settings[3];
            tracks.add(t);
        }
    }

    private void moveBaselines() {
        for (int c = 0; c < w * h; c++) {
            boolean near = false;
            for (Spot s : spots) {
                for (int d : s.cells) near |= c == d || neighbours(c, d);
            }
            for (int i = 0; i < settings[7] && !near; i++) {
                baseline[c] += Integer.compare(raw[c], baseline[c]);
            }
        }
    }

    int finger(int finger, int what) {
        if (!panel) return STATE;
        if (finger < 0 || finger > 4) return UNKNOWN;
        if (what < 0 || what > 3) return OUTSIDE;
        if (what == 0) return hand[finger] == null ? 0 : 1;
        return hand[finger] == null ? NONE : hand[finger][what - 1];
    }

    int cell(int cell, int what) {
        if (noCell(cell)) return UNKNOWN;
        if (what < 0 || what > 5) return OUTSIDE;
        int spot = NONE;
        for (int s = 0; s < spots.size(); s++) if (spots.get(s).cells.contains(cell)) spot = s;
        return new int[] {background[cell], baseline[cell], raw[cell], delta[cell], spot, sensed(cell)}[what];
    }

    int about(int what) {
        if (!panel) return STATE;
        if (what < 0 || what > 8) return OUTSIDE;
        return new int[] {
            w, h, drive, spread, noisy ? 1 : 0, spots.size(), tracks.size(), (int) seed, frames}[what];
    }

    int spot(int spot, int what) {
        if (!panel || spot < 0 || spot >= spots.size()) return UNKNOWN;
        if (what < 0 || what > 5) return OUTSIDE;
        Spot s = spots.get(spot);
        return new int[] {s.peak, s.cells.size(), s.mass, s.x, s.y, s.track}[what];
    }

    int track(int track, int what) {
        if (!panel || track < 0 || track >= tracks.size()) return UNKNOWN;
        if (what < 0 || what > 8) return OUTSIDE;
        Track t = tracks.get(track);
        return new int[] {t.id, t.x, t.y, t.size, t.mass, t.age, t.missed, t.path, t.palm ? 1 : 0}[what];
    }

    int as(int track, int kind) {
        if (!panel || track < 0 || track >= tracks.size()) return UNKNOWN;
        if (kind != 0 && kind != 1) return OUTSIDE;
        return tracks.get(track).palm == (kind == 1) ? tracks.get(track).id : NONE;
    }

    int event(int place, int what) {
        if (place < 0 || place >= 12 || place >= log.size()) return UNKNOWN;
        if (what < 0 || what > 2) return OUTSIDE;
        return log.get(log.size() - 1 - place)[what];
    }

    int count(int what) {
        if (what < 0 || what > 5) return OUTSIDE;
        return new int[] {page.length(), allFrames, allNoisy, begun, texts, panels}[what];
    }

    int events(int sort) {
        if (sort < 1 || sort > 4) return OUTSIDE;
        int found = 0;
        for (int[] event : log) found += event[0] == sort ? 1 : 0;
        return found;
    }

    long digest() {
        List<Integer> all = new ArrayList<>();
        if (panel) {
            for (int i = 0; i <= 8; i++) all.add(about(i));
            for (int f = 0; f < 5; f++) for (int i = 0; i <= 3; i++) all.add(finger(f, i));
            for (int c = 0; c < w * h; c++) for (int i = 0; i <= 5; i++) all.add(cell(c, i));
            for (int s = 0; s < spots.size(); s++) for (int i = 0; i <= 5; i++) all.add(spot(s, i));
            for (int t = 0; t < tracks.size(); t++) for (int i = 0; i <= 8; i++) all.add(track(t, i));
        }
        for (int e = 0; event(e, 0) != UNKNOWN; e++) for (int i = 0; i <= 2; i++) all.add(event(e, i));
        for (char c : page.toCharArray()) all.add((int) c);
        for (int i = 0; i <= 5; i++) all.add(count(i));
        for (int i = 1; i <= 4; i++) all.add(events(i));
        long h = 1583;
        for (int number : all) h = 31 * h + number;
        return h;
    }
}
