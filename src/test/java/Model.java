import java.math.BigInteger;
import java.util.ArrayList;
import java.util.HashMap;
import java.util.HashSet;
import java.util.List;
import java.util.Map;
import java.util.Set;
import java.util.function.Function;

/** A second reading of the document, slow and with the whole Java library, to hold the class against. */
final class Model {
    private static final int NONE = -1, BAD = -2, NOT = -3, FULL = -4;
    private static final int[] ROOM = {31, 8, 47};

    private record Reel(int sort, int length, int hand) { }

    private record Told(List<Reel> reels, List<Integer> quick, List<int[]> flicks, List<int[]> events) { }

    /** How a REEL stands: how DEEP, what, SPINS, and the HOURS in which it does not go. */
    private static final class Rider {
        int deep, what, spins;
        final Set<Integer> still = new HashSet<>();
    }

    private static final class Course {
        /** [HOUR][REEL] {DEEP, what, SPINS, TANGLED} */
        int[][][] rows;
        int missed, knotHour = NONE, knotReel = NONE;
    }

    private final List<StringBuilder> texts = List.of(new StringBuilder(), new StringBuilder(), new StringBuilder());
    private final List<int[]> events = new ArrayList<>();
    private final List<int[]> seen = new ArrayList<>();
    private final int[][] sheets = new int[4][];
    private final int[] forms = new int[4];
    private int finding;

    // ---- texts

    int type(int text, int b) {
        if (out(text, 0, 2) || out(b, 0, 255)) return BAD;
        if (texts.get(text).length() == ROOM[text]) return FULL;
        texts.get(text).append((char) b);
        return texts.get(text).length();
    }

    int wipe(int text) {
        if (out(text, 0, 2)) return BAD;
        int had = texts.get(text).length();
        texts.get(text).setLength(0);
        return had;
    }

    int undo(int text) {
        if (out(text, 0, 2)) return BAD;
        StringBuilder t = texts.get(text);
        if (t.length() == 0) return NOT;
        t.setLength(t.length() - 1);
        return t.length();
    }

    int fault(int text) {
        if (out(text, 0, 2)) return BAD;
        String whole = texts.get(text).toString();
        if (isWell(text, whole)) return NONE;
        // The longest start that some ending makes well is where it cannot go on.
        for (int n = whole.length(); n > 0; n--) {
            if (canGoOn(text, whole.substring(0, n))) return n;
        }
        return 0;
    }

    private static boolean isWell(int text, String t) {
        if (t.isEmpty()) return true;
        return switch (text) {
            case 0 -> t.matches("[nwd][1-9][0-7](;[nwd][1-9][0-7]){0,7}");
            case 1 -> t.matches("[1-9]{1,8}");
            default -> t.matches("[a-x][0-7](;[a-x][0-7]){0,15}");
        };
    }

    private static boolean canGoOn(int text, String t) {
        for (String end : new String[] {"", "0", "10", "n10", "a0"}) {
            if (isWell(text, t + end)) return true;
        }
        return false;
    }

    private Told told() {
        List<Reel> reels = new ArrayList<>();
        for (String part : parts(0)) {
            reels.add(new Reel("nwd".indexOf(part.charAt(0)), part.charAt(1) - '0', part.charAt(2) - '0'));
        }
        List<Integer> quick = new ArrayList<>();
        String hands = fault(1) == NONE ? texts.get(1).toString() : "";
        for (int h = 0; h < 8; h++) quick.add(h < hands.length() ? hands.charAt(h) - '0' : 1);
        List<int[]> flicks = new ArrayList<>();
        for (String part : parts(2)) flicks.add(new int[] {part.charAt(0) - 'a', part.charAt(1) - '0'});
        return new Told(reels, quick, flicks, new ArrayList<>(events));
    }

    private String[] parts(int text) {
        String t = texts.get(text).toString();
        return t.isEmpty() || fault(text) != NONE ? new String[0] : t.split(";");
    }

    int reel(int reel, int what) {
        List<Reel> reels = told().reels();
        if (out(reel, 0, reels.size() - 1) || out(what, 0, 2)) return BAD;
        Reel r = reels.get(reel);
        return new int[] {r.sort(), r.length(), r.hand()}[what];
    }

    int hand(int hand) {
        return out(hand, 0, 7) ? BAD : told().quick().get(hand);
    }

    int flick(int i, int what) {
        if (out(i, 0, 15) || out(what, 0, 1)) return BAD;
        List<int[]> flicks = told().flicks();
        return i < flicks.size() ? flicks.get(i)[what] : NONE;
    }

    int event(int kind, int hour, int reel) {
        if (out(kind, 0, 1) || out(hour, 0, 23) || out(reel, 0, 7)) return BAD;
        if (events.size() == 8) return FULL;
        events.add(new int[] {kind, hour, reel});
        return events.size();
    }

    int back() {
        if (events.isEmpty()) return NOT;
        events.remove(events.size() - 1);
        return events.size();
    }

    int read(int s) {
        if (out(s, 0, 3)) return BAD;
        if (sheets[s] == null) return find(1);
        int came = 0;
        while (3 * came + 3 <= sheets[s].length) {
            int answer = event(sheets[s][3 * came], sheets[s][3 * came + 1], sheets[s][3 * came + 2]);
            if (answer < 0) break;
            came++;
        }
        return came;
    }

    // ---- hours

    private static Course course(Told told) {
        List<Rider> riders = new ArrayList<>();
        for (int i = 0; i < told.reels().size(); i++) riders.add(new Rider());
        Course c = new Course();
        c.rows = new int[24][riders.size()][];
        for (int hour = 0; hour < 24; hour++) {
            doEvents(told, riders, hour);
            doFlicks(told, riders, hour, c);
            for (int i = 0; i < riders.size(); i++) {
                if (!riders.get(i).still.contains(hour)) go(told.reels().get(i), riders, i);
            }
            tangle(riders, hour, c);
            for (int i = 0; i < riders.size(); i++) {
                Rider r = riders.get(i);
                c.rows[hour][i] = new int[] {r.deep, r.what, r.what == 2 ? r.spins : 0, r.still.contains(hour + 1) ? 1 : 0};
            }
        }
        return c;
    }

    private static void doEvents(Told told, List<Rider> riders, int hour) {
        for (int[] e : told.events()) {
            if (e[1] != hour) continue;
            if (e[0] == 1) {
                for (Rider r : riders) if (r.what == 2) r.spins = Math.max(0, r.spins - 2);
            } else if (e[2] < riders.size() && riders.get(e[2]).what != 0) {
                riders.get(e[2]).what = 5;
                riders.get(e[2]).still.clear();
            }
        }
    }

    private static void doFlicks(Told told, List<Rider> riders, int hour, Course c) {
        Map<Integer, Integer> made = new HashMap<>();
        for (int[] f : told.flicks()) {
            if (f[0] != hour || f[1] >= riders.size()) continue;
            int hand = told.reels().get(f[1]).hand();
            if (made.getOrDefault(hand, 0) == (int) told.quick().get(hand)) {
                c.missed++;
                continue;
            }
            made.merge(hand, 1, Integer::sum);
            Rider r = riders.get(f[1]);
            r.what = r.what == 0 ? 1 : r.what == 2 ? 3 : r.what;
        }
    }

    private static void go(Reel reel, List<Rider> riders, int i) {
        Rider r = riders.get(i);
        int before = r.what;
        if (before == 1) {
            r.deep = Math.min(reel.length(), r.deep + 2);
            if (r.deep == reel.length()) {
                r.what = 2;
                r.spins = new int[] {reel.length(), reel.length() / 2, 1}[reel.sort()];
            }
        }
        if (before == 3) {
            r.deep = Math.max(0, r.deep - 2);
            if (r.deep == 0) r.what = 0;
        }
        if (before == 2) r.spins = Math.max(0, r.spins - 1);
        if (r.what == 2 && r.spins == 0) r.what = 4;
        if (before == 4) {
            for (int j = i - 1; j <= i + 1; j += 2) {
                if (j >= 0 && j < riders.size() && riders.get(j).what == 0) r.deep = Math.max(0, r.deep - 1);
            }
            if (r.deep == 0) r.what = 0;
        }
    }

    private static void tangle(List<Rider> riders, int hour, Course c) {
        for (int i = 1; i < riders.size(); i++) {
            Rider a = riders.get(i - 1), b = riders.get(i);
            boolean cross = a.what == 1 && b.what == 3 || a.what == 3 && b.what == 1;
            boolean held = a.still.contains(hour) || b.still.contains(hour)
                || a.still.contains(hour + 1) || b.still.contains(hour + 1);
            if (a.deep != b.deep || !cross || held) continue;
            for (Rider r : List.of(a, b)) r.still.addAll(List.of(hour + 1, hour + 2));
            if (c.knotHour == NONE) {
                c.knotHour = hour;
                c.knotReel = i - 1;
            }
        }
    }

    private static int homeOf(Course c, int reel) {
        for (int h = 1; h < 24; h++) {
            if (c.rows[h][reel][1] != 0) continue;
            for (int g = 0; g < h; g++) if (c.rows[g][reel][1] != 0) return h;
        }
        return NONE;
    }

    private static int lostOf(Course c) {
        int bits = 0;
        for (int i = 0; i < c.rows[23].length; i++) if (c.rows[23][i][1] >= 4) bits += 1 << i;
        return bits;
    }

    private boolean there(int reel) {
        return !out(reel, 0, told().reels().size() - 1);
    }

    int at(int hour, int reel, int what) {
        return out(hour, 0, 23) || !there(reel) || out(what, 0, 3) ? BAD : course(told()).rows[hour][reel][what];
    }

    int home(int reel, int what) {
        if (!there(reel) || out(what, 0, 1)) return BAD;
        Course c = course(told());
        if (what == 0) return homeOf(c, reel);
        int deepest = 0;
        for (int[][] row : c.rows) deepest = Math.max(deepest, row[reel][0]);
        return deepest;
    }

    int missed() {
        return course(told()).missed;
    }

    int knot(int what) {
        if (out(what, 0, 1)) return BAD;
        Course c = course(told());
        return what == 0 ? c.knotHour : c.knotReel;
    }

    int busy() {
        Course c = course(told());
        int best = 0, most = -1;
        for (int h = 0; h < 24; h++) {
            int n = 0;
            for (int[] r : c.rows[h]) if (r[1] >= 1 && r[1] <= 4) n++;
            if (n > most) {
                most = n;
                best = h;
            }
        }
        return best;
    }

    int lost() {
        return lostOf(course(told()));
    }

    // ---- plans

    private static Told withReel(Told t, int reel, Function<Reel, Reel> change) {
        List<Reel> reels = new ArrayList<>(t.reels());
        reels.set(reel, change.apply(reels.get(reel)));
        return new Told(reels, t.quick(), t.flicks(), t.events());
    }

    private static Told withFlicks(Told t, List<int[]> flicks) {
        return new Told(t.reels(), t.quick(), flicks, t.events());
    }

    private static Told withEvents(Told t, int bits) {
        List<int[]> some = new ArrayList<>();
        for (int e = 0; e < t.events().size(); e++) if ((bits >> e & 1) == 1) some.add(t.events().get(e));
        return new Told(t.reels(), t.quick(), t.flicks(), some);
    }

    int soon(int reel, int what) {
        if (!there(reel) || out(what, 0, 1)) return BAD;
        int[] best = {NONE, NONE};
        for (int h = 0; h < 24; h++) {
            List<int[]> more = new ArrayList<>(told().flicks());
            more.add(new int[] {h, reel});
            int home = homeOf(course(withFlicks(told(), more)), reel);
            if (home >= 0 && (best[1] < 0 || home < best[1])) best = new int[] {h, home};
        }
        return best[what];
    }

    int give(int reel, int what) {
        if (!there(reel) || out(what, 0, 1)) return BAD;
        int[] best = {NONE, 99};
        for (int i = 0; i < 8; i++) {
            int hand = i;
            int n = course(withReel(told(), reel, r -> new Reel(r.sort(), r.length(), hand))).missed;
            if (n < best[1]) best = new int[] {hand, n};
        }
        return best[what];
    }

    int spool(int reel, int what) {
        if (!there(reel) || out(what, 0, 1)) return BAD;
        int[] best = {NONE, 99};
        for (int i = 1; i <= 9; i++) {
            int n = Integer.bitCount(lostOf(course(ofLength(reel, i))));
            if (n < best[1]) best = new int[] {i, n};
        }
        return best[what];
    }

    private Told ofLength(int reel, int length) {
        return withReel(told(), reel, r -> new Reel(r.sort(), length, r.hand()));
    }

    int spare(int i) {
        if (out(i, -1, 1)) return BAD;
        int n = events.size(), all = (1 << n) - 1;
        List<Integer> best = null;
        for (int bits = 0; bits <= all; bits++) {
            if (Integer.bitCount(bits) > 2 || lostOf(course(withEvents(told(), all - bits))) != 0) continue;
            List<Integer> row = new ArrayList<>();
            for (int e = 0; e < n; e++) if ((bits >> e & 1) == 1) row.add(e);
            if (best == null || isLess(row, best)) best = row;
        }
        if (best == null) return NONE;
        return i == NONE ? best.size() : i < best.size() ? best.get(i) : NONE;
    }

    private static boolean isLess(List<Integer> a, List<Integer> b) {
        if (a.size() != b.size()) return a.size() < b.size();
        for (int i = 0; i < a.size(); i++) if (!a.get(i).equals(b.get(i))) return a.get(i) < b.get(i);
        return false;
    }

    // ---- seen, chance, days

    int seen(int hour, int reel, int deep) {
        if (out(hour, 0, 23) || out(reel, 0, 7) || out(deep, 0, 9)) return BAD;
        if (seen.size() == 8) return FULL;
        seen.add(new int[] {hour, reel, deep});
        return seen.size();
    }

    int forget() {
        int had = seen.size();
        seen.clear();
        return had;
    }

    private boolean fits(Told t) {
        Course c = course(t);
        return seen.stream().allMatch(s -> s[1] < t.reels().size() && c.rows[s[0]][s[1]][0] == s[2]);
    }

    int never() {
        int bits = 0;
        for (int e = 0; e < events.size(); e++) if (fits(withEvents(told(), ~(1 << e)))) bits += 1 << e;
        return bits;
    }

    int was(int reel, int what) {
        if (!there(reel) || out(what, 0, 1)) return BAD;
        int bits = 0;
        for (int i = what; i <= (what == 0 ? 2 : 9); i++) {
            int value = i;
            Told t = what == 1 ? ofLength(reel, i)
                : withReel(told(), reel, r -> new Reel(value, r.length(), r.hand()));
            if (fits(t)) bits += 1 << i;
        }
        return bits;
    }

    int ask(int reel) {
        if (!there(reel)) return BAD;
        List<Course> courses = new ArrayList<>();
        int span = was(reel, 1);
        for (int i = 1; i <= 9; i++) if ((span >> i & 1) == 1) courses.add(course(ofLength(reel, i)));
        int best = 0, least = 99;
        for (int h = 0; h < 24; h++) {
            Map<Integer, Integer> groups = new HashMap<>();
            for (Course c : courses) groups.merge(c.rows[h][reel][0], 1, Integer::sum);
            int most = groups.values().stream().max(Integer::compare).orElse(0);
            if (most < least) {
                least = most;
                best = h;
            }
        }
        return best;
    }

    long chance(int c, int reel, int hour, int what) {
        if (out(c, 0, 16) || !there(reel) || out(hour, 0, 23) || out(what, 0, 1)) return Long.MIN_VALUE + 2;
        BigInteger above = BigInteger.ZERO, below = BigInteger.valueOf(16).pow(events.size());
        for (int bits = 0; bits < 1 << events.size(); bits++) {
            if (course(withEvents(told(), bits)).rows[hour][reel][1] != 0) continue;
            int are = Integer.bitCount(bits);
            above = above.add(BigInteger.valueOf(c).pow(are).multiply(BigInteger.valueOf(16 - c).pow(events.size() - are)));
        }
        BigInteger by = above.gcd(below);
        return (what == 0 ? above : below).divide(by).longValueExact();
    }

    int days(int seed, int n, int what) {
        if (out(n, 0, 16) || out(what, 0, 1)) return BAD;
        int reels = told().reels().size();
        long s = seed & 0xffffffffL;
        List<int[]> flicks = new ArrayList<>();
        for (int i = 0; i < n && reels > 0; i++) {
            s = (1103515245L * s + 12345) & 0xffffffffL;
            int hour = (int) (s / 65536 % 24);
            s = (1103515245L * s + 12345) & 0xffffffffL;
            flicks.add(new int[] {hour, (int) (s / 65536 % reels)});
        }
        Course c = course(withFlicks(told(), flicks));
        return what == 0 ? Integer.bitCount(lostOf(c)) : c.missed;
    }

    // ---- sheets

    int sheet(int s, int form, int n) {
        if (out(s, 0, 3) || out(form, 0, 2) || n > 60) return BAD;
        if (n < 0) return find(5);
        sheets[s] = new int[n];
        forms[s] = form;
        return n;
    }

    int lose(int s) {
        if (out(s, 0, 3)) return BAD;
        if (sheets[s] == null) return find(1);
        int had = sheets[s].length;
        sheets[s] = null;
        return had;
    }

    int lay(int s, int form, int i, int v) {
        if (out(s, 0, 3) || out(form, 0, 2)) return BAD;
        int wrong = wrong(s, form, i);
        if (wrong != 0) return find(wrong);
        put(s, i, v);
        return 1;
    }

    int get(int s, int form, int i) {
        if (out(s, 0, 3) || out(form, 0, 2)) return Integer.MIN_VALUE;
        int wrong = wrong(s, form, i);
        if (wrong == 0) return sheets[s][i];
        find(wrong);
        return Integer.MIN_VALUE;
    }

    private int wrong(int s, int form, int i) {
        if (sheets[s] == null) return 1;
        if (forms[s] != form) return 3;
        return out(i, 0, sheets[s].length - 1) ? 2 : 0;
    }

    private void put(int s, int i, int v) {
        sheets[s][i] = forms[s] == 0 ? (byte) v : forms[s] == 1 ? (short) v : v;
    }

    int copy(int s, int i, int t, int j, int n) {
        if (out(s, 0, 3) || out(t, 0, 3)) return BAD;
        if (sheets[s] == null || sheets[t] == null) return find(1);
        if (forms[s] != forms[t]) return find(4);
        if (i < 0 || j < 0 || n < 0 || (long) i + n > sheets[s].length || (long) j + n > sheets[t].length) return find(2);
        int[] as = sheets[s].clone();
        for (int k = 0; k < n; k++) sheets[t][j + k] = as[i + k];
        return 1;
    }

    int write(int reel, int s) {
        if (!there(reel) || out(s, 0, 3)) return BAD;
        if (sheets[s] == null) return find(1);
        int n = Math.min(24, sheets[s].length);
        for (int h = 0; h < n; h++) put(s, h, at(h, reel, 0));
        return n;
    }

    int count(int what) {
        if (out(what, 0, 8)) return BAD;
        if (what >= 3 && what <= 5) return texts.get(what - 3).length();
        return switch (what) {
            case 0 -> told().reels().size();
            case 1 -> fault(1) == NONE ? texts.get(1).length() : 0;
            case 2 -> told().flicks().size();
            case 6 -> events.size();
            case 7 -> seen.size();
            default -> finding;
        };
    }

    long digest() {
        List<Long> all = new ArrayList<>();
        for (int i = 0; i <= 7; i++) all.add((long) count(i));
        for (int i = 0; i <= 2; i++) all.add((long) fault(i));
        for (int i = 0; i <= 7; i++) all.add((long) hand(i));
        for (int i = 0; i <= 15; i++) for (int w = 0; w <= 1; w++) all.add((long) flick(i, w));
        for (int r = 0; r < told().reels().size(); r++) {
            for (int w = 0; w <= 2; w++) all.add((long) reel(r, w));
            for (int h : new int[] {0, 5, 11, 23}) for (int w = 0; w <= 3; w++) all.add((long) at(h, r, w));
            for (int w = 0; w <= 1; w++) all.add((long) home(r, w));
            for (int w = 0; w <= 1; w++) all.add((long) soon(r, w));
            for (int w = 0; w <= 1; w++) all.add((long) give(r, w));
            for (int w = 0; w <= 1; w++) all.add((long) spool(r, w));
            for (int w = 0; w <= 1; w++) all.add((long) was(r, w));
            all.add((long) ask(r));
            for (int w = 0; w <= 1; w++) all.add(chance(5, r, 12, w));
        }
        for (int one : new int[] {missed(), knot(0), knot(1), busy(), lost(), spare(NONE), spare(0), never(),
            days(7, 12, 0), days(7, 12, 1)}) all.add((long) one);
        long h = 17;
        for (long one : all) h = 31 * h + one;
        return h;
    }

    private int find(int number) {
        finding = number;
        return -10 - number;
    }

    private static boolean out(int n, int least, int most) {
        return n < least || n > most;
    }
}
