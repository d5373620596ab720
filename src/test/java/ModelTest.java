import java.util.Random;

/** Runs of calls by chance, of the same seeds each time, against the Model: every answer must be alike. */
public final class ModelTest {
    private static final int RUNS = 1500, CALLS = 60;
    private final Random random;
    private final StringReels x = new StringReels();
    private final Model m = new Model();
    private boolean knotted;

    private ModelTest(int seed) {
        random = new Random(seed);
    }

    public static void main(String[] args) {
        Answers all = new Answers();
        int knots = 0;
        for (int seed = 0; seed < RUNS; seed++) {
            ModelTest t = new ModelTest(seed);
            all.holds("run of seed " + seed + " answers as the model", t.run(seed % 3 == 0));
            knots += t.knotted ? 1 : 0;
        }
        all.holds("many runs have a tangle: " + knots, knots > RUNS / 4);
        all.end();
    }

    private boolean run(boolean crossing) {
        boolean right = crossing ? tellCrossing() : tellCity();
        knotted = m.knot(0) >= 0;
        for (int i = 0; i < CALLS && right; i++) {
            right = call();
        }
        return right && same("digest()", x.digest(), m.digest());
    }

    private boolean same(String call, long got, long want) {
        if (got != want) {
            System.out.println(call + " answered " + got + ", the model " + want);
        }
        return got == want;
    }

    private int n(int bound) {
        return random.nextInt(bound);
    }

    /** Mostly 0 to bound - 1, now and then one beside it or far away. */
    private int some(int bound) {
        switch (n(30)) {
            case 0: return -1;
            case 1: return bound;
            case 2: return random.nextInt();
            default: return n(bound);
        }
    }

    private boolean tellCity() {
        StringBuilder reels = new StringBuilder(), hands = new StringBuilder(), flicks = new StringBuilder();
        int count = n(9), hours = 4 + n(21), manyHands = 1 + n(8);
        for (int i = 0; i < count; i++) {
            reels.append(i == 0 ? "" : ";").append("nnwd".charAt(n(4))).append(1 + n(9)).append(n(manyHands));
        }
        for (int i = n(9); i > 0; i--) hands.append(1 + n(n(2) == 0 ? 3 : 9));
        int many = n(17);
        for (int i = 0; i < many; i++) {
            flicks.append(i == 0 ? "" : ";").append((char) ('a' + n(hours))).append(n(n(9) == 0 || count == 0 ? 8 : count));
        }
        return typeAll(0, reels) && typeAll(1, hands) && typeAll(2, flicks);
    }

    /** Two REELS beside each other that meet, one on its way up, among others: by chance alone hardly any do. */
    private boolean tellCrossing() {
        int count = 2 + n(7), riser = n(count), sinker = riser == 0 ? 1 : riser == count - 1 || n(2) == 0 ? riser - 1 : riser + 1;
        int half = 2 + n(3), meet = 1 + n(half - 1), down = n(4), up = down + half + n(half);
        // Behind HOUR up + (half - 1 - meet) both are as DEEP as 2 meet.
        int sink = up + half - 2 * meet;
        StringBuilder reels = new StringBuilder(), flicks = new StringBuilder();
        for (int i = 0; i < count; i++) {
            reels.append(i == 0 ? "" : ";").append(i == riser ? 'n' : "nnwd".charAt(n(4)));
            reels.append(i == riser ? 2 * half : i == sinker ? 2 * meet + 1 + n(9 - 2 * meet) : 1 + n(9)).append(n(8));
        }
        flicks.append((char) ('a' + down)).append(riser).append(';').append((char) ('a' + up)).append(riser);
        flicks.append(';').append((char) ('a' + sink)).append(sinker);
        for (int i = n(14); i > 0; i--) flicks.append(';').append((char) ('a' + n(24))).append(n(count));
        return typeAll(0, reels) && typeAll(1, "22222222") && typeAll(2, flicks);
    }

    private boolean typeAll(int text, CharSequence bytes) {
        boolean right = true;
        for (int i = 0; i < bytes.length() && right; i++) {
            right = same("type", x.type(text, bytes.charAt(i)), m.type(text, bytes.charAt(i)));
        }
        return right;
    }

    private boolean call() {
        switch (n(10)) {
            case 0: case 1: return change();
            case 2: case 3: return sheets();
            case 4: return seen();
            case 5: case 6: return plans();
            case 7: return told();
            default: return hours();
        }
    }

    private boolean change() {
        int t = some(3), k = some(2), h = some(24), r = some(8), s = some(4);
        switch (n(12)) {
            case 0: return same("undo", x.undo(t), m.undo(t));
            case 1: return n(4) != 0 || same("wipe", x.wipe(t), m.wipe(t));
            case 2: {
                int b = n(2) == 0 ? ";nwdax0189".charAt(n(10)) : some(256);
                return same("type " + t + " " + b, x.type(t, b), m.type(t, b));
            }
            case 3: return same("back", x.back(), m.back());
            case 4: return same("read " + s, x.read(s), m.read(s));
            case 5: {
                boolean right = true;
                for (int i = 0; i < 3 && right; i++) right = same("wipe", x.wipe(i), m.wipe(i));
                return right && tellCity();
            }
            default: return same("event " + k + " " + h + " " + r, x.event(k, h, r), m.event(k, h, r));
        }
    }

    private boolean told() {
        int t = some(3), r = some(8), w = some(3), i = some(16), c = some(9);
        switch (n(5)) {
            case 0: return same("fault " + t, x.fault(t), m.fault(t));
            case 1: return same("reel " + r + " " + w, x.reel(r, w), m.reel(r, w));
            case 2: return same("hand " + r, x.hand(r), m.hand(r));
            case 3: return same("flick " + i + " " + w, x.flick(i, w), m.flick(i, w));
            default: return same("count " + c, x.count(c), m.count(c));
        }
    }

    private boolean hours() {
        int h = some(24), r = some(8), w = some(4), v = some(2);
        switch (n(8)) {
            case 0: return same("home " + r + " " + v, x.home(r, v), m.home(r, v));
            case 1: return same("missed", x.missed(), m.missed());
            case 2: return same("knot " + v, x.knot(v), m.knot(v));
            case 3: return same("busy", x.busy(), m.busy());
            case 4: return same("lost", x.lost(), m.lost());
            default: return same("at " + h + " " + r + " " + w, x.at(h, r, w), m.at(h, r, w));
        }
    }

    private boolean plans() {
        int r = some(8), w = some(2), i = some(3) - 1, c = some(17), h = some(24), k = some(17), seed = random.nextInt();
        switch (n(6)) {
            case 0: return same("soon " + r + " " + w, x.soon(r, w), m.soon(r, w));
            case 1: return same("give " + r + " " + w, x.give(r, w), m.give(r, w));
            case 2: return same("spool " + r + " " + w, x.spool(r, w), m.spool(r, w));
            case 3: return same("spare " + i, x.spare(i), m.spare(i));
            case 4: return same("chance " + c + " " + r + " " + h + " " + w, x.chance(c, r, h, w), m.chance(c, r, h, w));
            default: return same("days " + seed + " " + k + " " + w, x.days(seed, k, w), m.days(seed, k, w));
        }
    }

    private boolean seen() {
        int h = some(24), r = some(8), d = some(10), w = some(2);
        // Mostly what was indeed so, as little else leaves any bits.
        int truth = m.at(h, r, 0);
        int deep = truth >= 0 && n(5) != 0 ? truth : d;
        switch (n(8)) {
            case 0: return n(3) != 0 || same("forget", x.forget(), m.forget());
            case 1: return same("never", x.never(), m.never());
            case 2: case 3: return same("was " + r + " " + w, x.was(r, w), m.was(r, w));
            case 4: case 5: return same("ask " + r, x.ask(r), m.ask(r));
            default: return same("seen " + h + " " + r + " " + deep, x.seen(h, r, deep), m.seen(h, r, deep));
        }
    }

    private boolean sheets() {
        int s = some(4), t = some(4), f = some(3), i = some(61), j = some(61), v = n(2) == 0 ? some(24) : random.nextInt();
        int r = some(8), k = n(3) == 0 ? some(61) : n(6);
        switch (n(9)) {
            case 0: case 1: return same("sheet " + s + " " + f + " " + i, x.sheet(s, f, i), m.sheet(s, f, i));
            case 2: return n(3) != 0 || same("lose " + s, x.lose(s), m.lose(s));
            case 3: case 4: return same("lay", x.lay(s, f, k, v), m.lay(s, f, k, v));
            case 5: return same("get", x.get(s, f, k), m.get(s, f, k));
            case 6: return same("copy", x.copy(s, i, t, j, k), m.copy(s, i, t, j, k));
            case 7: return same("write", x.write(r, s), m.write(r, s));
            default: return same("count 8", x.count(8), m.count(8));
        }
    }
}
