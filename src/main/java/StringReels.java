import java.util.Arrays;

/** The cliff city on its strings: reels, hands, flicks and events told, and what comes of them. */
public final class StringReels {
    public static final int NONE = -1, BAD = -2, NOT = -3, FULL = -4;

    private static final int HOURS = 24, LAST = 23, REELS = 8, HANDS = 8, FLICKS = 16, TRIOS = 8;
    private static final int SHEETS = 4, ITEMS = 60, FORMS = 3, LONGEST = 9, SORTS = 3, DEEPS = 10;
    private static final int UP = 0, DOWN = 1, SLEEPS = 2, COMES = 3, STUCK = 4, GONE = 5;
    private static final int CUT = 0, DAMP = 1;
    private static final int NEW = 0, WORN = 1, DAMPED = 2;
    private static final int NULL = 1, INDEX = 2, CAST = 3, STORE = 4, SIZE = 5;
    private static final int REEL_TEXT = 0, HAND_TEXT = 1, FLICK_TEXT = 2, TEXTS = 3;
    private static final int SIXTEENTHS = 16, NOTHING = 0;
    private static final int LEAST_INT = 1 << 31;
    private static final long LEAST_LONG = 1L << 63;
    private static final int[] TOLD_HOURS = {0, 5, 11, 23};

    private final Text[] texts = new Text[TEXTS];
    private final City city = new City();
    private final Flicks lots = new Flicks();
    private final Trios sights = new Trios();
    private final Sheet[] sheets = new Sheet[SHEETS];
    private final Day told = new Day();
    private final Day trial = new Day();
    private final int[] alike = new int[HOURS * DEEPS];
    private final long[] upWeights = new long[REELS];
    private boolean toldIsRun;
    private int weighedBy = NONE;
    private int weighedAt = NONE;
    private int which;
    private int least;
    private int finding;

    public StringReels() {
        texts[REEL_TEXT] = new Text(4 * REELS - 1);
        texts[HAND_TEXT] = new Text(HANDS);
        texts[FLICK_TEXT] = new Text(3 * FLICKS - 1);
        for (int s = 0; s < SHEETS; s++) {
            sheets[s] = new Sheet();
        }
    }

    // ---- reels, hands, flicks, events

    public int type(int text, int b) {
        if (!isText(text) || b < 0 || b > 255) {
            return BAD;
        }
        Text t = texts[text];
        if (t.length >= t.bytes.length) {
            return FULL;
        }
        t.bytes[t.length] = b;
        t.length++;
        readAnew(text);
        return t.length;
    }

    public int wipe(int text) {
        if (!isText(text)) {
            return BAD;
        }
        int had = texts[text].length;
        texts[text].length = 0;
        readAnew(text);
        return had;
    }

    public int undo(int text) {
        if (!isText(text)) {
            return BAD;
        }
        Text t = texts[text];
        if (t.length == 0) {
            return NOT;
        }
        t.length--;
        readAnew(text);
        return t.length;
    }

    public int fault(int text) {
        return isText(text) ? texts[text].faultOf(text) : BAD;
    }

    public int reel(int reel, int what) {
        if (!isReel(reel)) {
            return BAD;
        }
        switch (what) {
            case 0: return city.sort[reel];
            case 1: return city.length[reel];
            case 2: return city.holder[reel];
            default: return BAD;
        }
    }

    public int hand(int hand) {
        return hand < 0 || hand >= HANDS ? BAD : city.quick[hand];
    }

    public int flick(int i, int what) {
        if (i < 0 || i >= FLICKS || !isFirstOrSecond(what)) {
            return BAD;
        }
        if (i >= city.flicks.size) {
            return NONE;
        }
        return what == 0 ? city.flicks.hour[i] : city.flicks.reel[i];
    }

    public int event(int kind, int hour, int reel) {
        if (!mayBeEvent(kind, hour, reel)) {
            return BAD;
        }
        if (city.events.size >= TRIOS) {
            return FULL;
        }
        city.events.put(kind, hour, reel);
        changed();
        return city.events.size;
    }

    public int back() {
        if (city.events.size == 0) {
            return NOT;
        }
        city.events.size--;
        changed();
        return city.events.size;
    }

    public int read(int s) {
        if (!isSheet(s)) {
            return BAD;
        }
        Sheet sheet = sheets[s];
        if (sheet.isLost()) {
            return find(NULL);
        }
        int came = 0;
        for (int i = 0; i + 2 < sheet.size && city.events.size < TRIOS; i += 3) {
            int kind = sheet.items[i];
            int hour = sheet.items[i + 1];
            int reel = sheet.items[i + 2];
            if (!mayBeEvent(kind, hour, reel)) {
                break;
            }
            city.events.put(kind, hour, reel);
            came++;
        }
        changed();
        return came;
    }

    // ---- hours

    public int at(int hour, int reel, int what) {
        if (!isHour(hour) || !isReel(reel)) {
            return BAD;
        }
        int place = hour * REELS + reel;
        switch (what) {
            case 0: return today().deep[place];
            case 1: return today().state[place];
            case 2: return today().spins[place];
            case 3: return today().tangled[place];
            default: return BAD;
        }
    }

    public int home(int reel, int what) {
        if (!isReel(reel) || !isFirstOrSecond(what)) {
            return BAD;
        }
        return what == 0 ? today().homeOf(reel) : today().deepestOf(reel);
    }

    public int missed() {
        return today().misses;
    }

    public int knot(int what) {
        if (!isFirstOrSecond(what)) {
            return BAD;
        }
        return what == 0 ? today().knotHour : today().knotReel;
    }

    public int busy() {
        return today().busiestHour(city.reels);
    }

    public int lost() {
        return today().lostBits(city.reels);
    }

    // ---- plans

    public int soon(int reel, int what) {
        if (!isReel(reel) || !isFirstOrSecond(what)) {
            return BAD;
        }
        searchSoon(reel);
        return what == 0 ? which : least;
    }

    public int give(int reel, int what) {
        if (!isReel(reel) || !isFirstOrSecond(what)) {
            return BAD;
        }
        searchGive(reel);
        return what == 0 ? which : least;
    }

    public int spool(int reel, int what) {
        if (!isReel(reel) || !isFirstOrSecond(what)) {
            return BAD;
        }
        searchSpool(reel);
        return what == 0 ? which : least;
    }

    public int spare(int i) {
        if (i < NONE || i > 1) {
            return BAD;
        }
        int spared = sparedBits();
        if (spared == NONE) {
            return NONE;
        }
        return i == NONE ? Integer.bitCount(spared) : placeOfBit(spared, i);
    }

    // ---- seen, chance, days

    public int seen(int hour, int reel, int deep) {
        if (!isHour(hour) || reel < 0 || reel >= REELS || deep < 0 || deep >= DEEPS) {
            return BAD;
        }
        if (sights.size >= TRIOS) {
            return FULL;
        }
        sights.put(hour, reel, deep);
        return sights.size;
    }

    public int forget() {
        int had = sights.size;
        sights.size = 0;
        return had;
    }

    public int never() {
        int bits = 0;
        for (int e = 0; e < city.events.size; e++) {
            trial.run(city, city.flicks, 1 << e, LAST);
            if (comesOutAsSeen()) {
                bits |= 1 << e;
            }
        }
        return bits;
    }

    public int was(int reel, int what) {
        if (!isReel(reel) || !isFirstOrSecond(what)) {
            return BAD;
        }
        return what == 0 ? sortBits(reel) : spanBits(reel);
    }

    public int ask(int reel) {
        if (!isReel(reel)) {
            return BAD;
        }
        Arrays.fill(alike, 0);
        spanBits(reel);
        beginSearch();
        for (int hour = 0; hour < HOURS; hour++) {
            offer(hour, mostAlike(hour));
        }
        return which;
    }

    public long chance(int c, int reel, int hour, int what) {
        if (c < 0 || c > SIXTEENTHS || !isReel(reel) || !isHour(hour) || !isFirstOrSecond(what)) {
            return LEAST_LONG - BAD;
        }
        weigh(c, hour);
        long above = upWeights[reel];
        long below = power(SIXTEENTHS, city.events.size);
        long by = commonDivisor(above, below);
        if (by == 0) {
            return 0;
        }
        return what == 0 ? above / by : below / by;
    }

    public int days(int seed, int n, int what) {
        if (n < 0 || n > FLICKS || !isFirstOrSecond(what)) {
            return BAD;
        }
        drawFlicks(seed, n);
        trial.run(city, lots, NOTHING, LAST);
        return what == 0 ? Integer.bitCount(trial.lostBits(city.reels)) : trial.misses;
    }

    // ---- sheets

    public int sheet(int s, int form, int n) {
        if (!isSheet(s) || !isForm(form) || n > ITEMS) {
            return BAD;
        }
        if (n < 0) {
            return find(SIZE);
        }
        sheets[s].renew(form, n);
        return n;
    }

    public int lose(int s) {
        if (!isSheet(s)) {
            return BAD;
        }
        Sheet sheet = sheets[s];
        if (sheet.isLost()) {
            return find(NULL);
        }
        int had = sheet.size;
        sheet.size = NONE;
        return had;
    }

    public int lay(int s, int form, int i, int v) {
        if (!isSheet(s) || !isForm(form)) {
            return BAD;
        }
        int wrong = wrongItem(sheets[s], form, i);
        if (wrong != 0) {
            return find(wrong);
        }
        sheets[s].put(i, v);
        return 1;
    }

    public int get(int s, int form, int i) {
        if (!isSheet(s) || !isForm(form)) {
            return LEAST_INT;
        }
        int wrong = wrongItem(sheets[s], form, i);
        if (wrong != 0) {
            find(wrong);
            return LEAST_INT;
        }
        return sheets[s].items[i];
    }

    public int copy(int s, int i, int t, int j, int n) {
        if (!isSheet(s) || !isSheet(t)) {
            return BAD;
        }
        Sheet from = sheets[s];
        Sheet to = sheets[t];
        if (from.isLost() || to.isLost()) {
            return find(NULL);
        }
        if (from.form != to.form) {
            return find(STORE);
        }
        if (!from.hasRun(i, n) || !to.hasRun(j, n)) {
            return find(INDEX);
        }
        System.arraycopy(from.items, i, to.items, j, n);
        return 1;
    }

    public int write(int reel, int s) {
        if (!isReel(reel) || !isSheet(s)) {
            return BAD;
        }
        Sheet sheet = sheets[s];
        if (sheet.isLost()) {
            return find(NULL);
        }
        int n = Math.min(sheet.size, HOURS);
        for (int hour = 0; hour < n; hour++) {
            sheet.put(hour, today().deep[hour * REELS + reel]);
        }
        return n;
    }

    public int count(int what) {
        switch (what) {
            case 0: return city.reels;
            case 1: return city.hands;
            case 2: return city.flicks.size;
            case 3: return texts[REEL_TEXT].length;
            case 4: return texts[HAND_TEXT].length;
            case 5: return texts[FLICK_TEXT].length;
            case 6: return city.events.size;
            case 7: return sights.size;
            case 8: return finding;
            default: return BAD;
        }
    }

    public long digest() {
        long h = digestTold(17);
        for (int reel = 0; reel < city.reels; reel++) {
            h = digestReel(h, reel);
        }
        h = mix(h, missed());
        h = mix(h, knot(0));
        h = mix(h, knot(1));
        h = mix(h, busy());
        h = mix(h, lost());
        h = mix(h, spare(NONE));
        h = mix(h, spare(0));
        h = mix(h, never());
        h = mix(h, days(7, 12, 0));
        return mix(h, days(7, 12, 1));
    }

    private long digestTold(long start) {
        long h = start;
        for (int what = 0; what <= 7; what++) {
            h = mix(h, count(what));
        }
        for (int text = 0; text < TEXTS; text++) {
            h = mix(h, fault(text));
        }
        for (int hand = 0; hand < HANDS; hand++) {
            h = mix(h, hand(hand));
        }
        for (int i = 0; i < FLICKS; i++) {
            h = mix(h, flick(i, 0));
            h = mix(h, flick(i, 1));
        }
        return h;
    }

    private long digestReel(long start, int reel) {
        long h = start;
        for (int what = 0; what <= 2; what++) {
            h = mix(h, reel(reel, what));
        }
        for (int hour : TOLD_HOURS) {
            for (int what = 0; what <= 3; what++) {
                h = mix(h, at(hour, reel, what));
            }
        }
        h = mix(h, home(reel, 0));
        h = mix(h, home(reel, 1));
        searchSoon(reel);
        h = mix(mix(h, which), least);
        searchGive(reel);
        h = mix(mix(h, which), least);
        searchSpool(reel);
        h = mix(mix(h, which), least);
        h = mix(h, sortBits(reel));
        h = mix(h, spanBits(reel));
        h = mix(h, ask(reel));
        h = mix(h, chance(5, reel, 12, 0));
        return mix(h, chance(5, reel, 12, 1));
    }

    private static long mix(long h, long answer) {
        return 31 * h + answer;
    }

    // ---- what a number may be

    private static boolean isText(int text) {
        return text >= 0 && text < TEXTS;
    }

    private static boolean isHour(int hour) {
        return hour >= 0 && hour < HOURS;
    }

    private static boolean isFirstOrSecond(int what) {
        return what == 0 || what == 1;
    }

    private static boolean isSheet(int s) {
        return s >= 0 && s < SHEETS;
    }

    private static boolean isForm(int form) {
        return form >= 0 && form < FORMS;
    }

    private boolean isReel(int reel) {
        return reel >= 0 && reel < city.reels;
    }

    private static boolean mayBeEvent(int kind, int hour, int reel) {
        return (kind == CUT || kind == DAMP) && isHour(hour) && reel >= 0 && reel < REELS;
    }

    private static int wrongItem(Sheet sheet, int form, int i) {
        if (sheet.isLost()) {
            return NULL;
        }
        if (sheet.form != form) {
            return CAST;
        }
        return i < 0 || i >= sheet.size ? INDEX : 0;
    }

    private int find(int number) {
        finding = number;
        return -10 - number;
    }

    // ---- what is told, and the days that come of it

    private void changed() {
        toldIsRun = false;
        weighedBy = NONE;
    }

    private void readAnew(int text) {
        Text t = texts[text];
        int length = t.faultOf(text) == NONE ? t.length : 0;
        switch (text) {
            case REEL_TEXT: city.readReels(t.bytes, length); break;
            case HAND_TEXT: city.readHands(t.bytes, length); break;
            default: city.readFlicks(t.bytes, length); break;
        }
        changed();
    }

    private Day today() {
        if (!toldIsRun) {
            told.run(city, city.flicks, NOTHING, LAST);
            toldIsRun = true;
        }
        return told;
    }

    private void beginSearch() {
        which = NONE;
        least = NONE;
    }

    private void offer(int candidate, int value) {
        if (which == NONE || value < least) {
            which = candidate;
            least = value;
        }
    }

    private void searchSoon(int reel) {
        Flicks flicks = city.flicks;
        int had = flicks.size;
        beginSearch();
        for (int hour = 0; hour < HOURS; hour++) {
            flicks.size = had;
            flicks.put(hour, reel);
            trial.run(city, flicks, NOTHING, LAST);
            int home = trial.homeOf(reel);
            if (home != NONE) {
                offer(hour, home);
            }
        }
        flicks.size = had;
    }

    private void searchGive(int reel) {
        int own = city.holder[reel];
        beginSearch();
        for (int hand = 0; hand < HANDS; hand++) {
            city.holder[reel] = hand;
            trial.run(city, city.flicks, NOTHING, LAST);
            offer(hand, trial.misses);
        }
        city.holder[reel] = own;
    }

    private void searchSpool(int reel) {
        int own = city.length[reel];
        beginSearch();
        for (int length = 1; length <= LONGEST; length++) {
            city.length[reel] = length;
            trial.run(city, city.flicks, NOTHING, LAST);
            offer(length, Integer.bitCount(trial.lostBits(city.reels)));
        }
        city.length[reel] = own;
    }

    private boolean noneIsLost(int without) {
        trial.run(city, city.flicks, without, LAST);
        return trial.lostBits(city.reels) == 0;
    }

    private int sparedBits() {
        if (noneIsLost(NOTHING)) {
            return 0;
        }
        for (int e = 0; e < city.events.size; e++) {
            if (noneIsLost(1 << e)) {
                return 1 << e;
            }
        }
        for (int e = 0; e < city.events.size; e++) {
            for (int f = e + 1; f < city.events.size; f++) {
                if (noneIsLost(1 << e | 1 << f)) {
                    return 1 << e | 1 << f;
                }
            }
        }
        return NONE;
    }

    private static int placeOfBit(int bits, int i) {
        int ahead = 0;
        for (int place = 0; place < TRIOS; place++) {
            if ((bits >> place & 1) != 0) {
                if (ahead == i) {
                    return place;
                }
                ahead++;
            }
        }
        return NONE;
    }

    private boolean comesOutAsSeen() {
        for (int i = 0; i < sights.size; i++) {
            int reel = sights.second[i];
            if (reel >= city.reels || trial.deep[sights.first[i] * REELS + reel] != sights.third[i]) {
                return false;
            }
        }
        return true;
    }

    private int sortBits(int reel) {
        int own = city.sort[reel];
        int bits = 0;
        for (int sort = 0; sort < SORTS; sort++) {
            city.sort[reel] = sort;
            trial.run(city, city.flicks, NOTHING, LAST);
            if (comesOutAsSeen()) {
                bits |= 1 << sort;
            }
        }
        city.sort[reel] = own;
        return bits;
    }

    // Counts alike as well, so that ask() need not run the same days again.
    private int spanBits(int reel) {
        int own = city.length[reel];
        int bits = 0;
        for (int length = 1; length <= LONGEST; length++) {
            city.length[reel] = length;
            trial.run(city, city.flicks, NOTHING, LAST);
            if (comesOutAsSeen()) {
                bits |= 1 << length;
                countAlike(reel);
            }
        }
        city.length[reel] = own;
        return bits;
    }

    private void countAlike(int reel) {
        for (int hour = 0; hour < HOURS; hour++) {
            alike[hour * DEEPS + trial.deep[hour * REELS + reel]]++;
        }
    }

    private int mostAlike(int hour) {
        int most = 0;
        for (int deep = 0; deep < DEEPS; deep++) {
            most = Math.max(most, alike[hour * DEEPS + deep]);
        }
        return most;
    }

    /** Leaves in upWeights how many of 16 to the number of EVENTS chances find each REEL UP. */
    private void weigh(int c, int hour) {
        if (weighedBy == c && weighedAt == hour) {
            return;
        }
        Arrays.fill(upWeights, 0);
        int events = city.events.size;
        for (int without = 0; without < 1 << events; without++) {
            int out = Integer.bitCount(without);
            long weight = power(c, events - out) * power(SIXTEENTHS - c, out);
            if (weight != 0) {
                trial.run(city, city.flicks, without, hour);
                addWhereUp(hour, weight);
            }
        }
        weighedBy = c;
        weighedAt = hour;
    }

    private void addWhereUp(int hour, long weight) {
        for (int reel = 0; reel < city.reels; reel++) {
            if (trial.state[hour * REELS + reel] == UP) {
                upWeights[reel] += weight;
            }
        }
    }

    private static long power(int base, int times) {
        long product = 1;
        for (int i = 0; i < times; i++) {
            product *= base;
        }
        return product;
    }

    private static long commonDivisor(long a, long b) {
        long x = a;
        long y = b;
        // Euclid needs fewer than a hundred steps for any two longs.
        for (int step = 0; step < 100 && y != 0; step++) {
            long rest = x % y;
            x = y;
            y = rest;
        }
        return x;
    }

    private void drawFlicks(int seed, int n) {
        lots.size = 0;
        if (city.reels == 0) {
            return;
        }
        int next = seed;
        for (int i = 0; i < n; i++) {
            next = nextSeed(next);
            int hour = (next >>> 16) % HOURS;
            next = nextSeed(next);
            lots.put(hour, (next >>> 16) % city.reels);
        }
    }

    private static int nextSeed(int seed) {
        return 1103515245 * seed + 12345;
    }

    /** The bytes that were typed. */
    private static final class Text {
        private final int[] bytes;
        private int length;

        private Text(int limit) {
            bytes = new int[limit];
        }

        private int faultOf(int text) {
            for (int place = 0; place < length; place++) {
                if (!goesOn(text, place, bytes[place])) {
                    return place;
                }
            }
            return isEnded(text) ? NONE : length;
        }

        // A ninth REEL and a seventeenth FLICK have no room in their texts, so need no test here.
        private static boolean goesOn(int text, int place, int b) {
            switch (text) {
                case REEL_TEXT: return goesOnAsReel(place % 4, b);
                case HAND_TEXT: return b >= '1' && b <= '9';
                default: return goesOnAsFlick(place % 3, b);
            }
        }

        private static boolean goesOnAsReel(int part, int b) {
            switch (part) {
                case 0: return b == 'n' || b == 'w' || b == 'd';
                case 1: return b >= '1' && b <= '9';
                case 2: return b >= '0' && b <= '7';
                default: return b == ';';
            }
        }

        private static boolean goesOnAsFlick(int part, int b) {
            switch (part) {
                case 0: return b >= 'a' && b <= 'x';
                case 1: return b >= '0' && b <= '7';
                default: return b == ';';
            }
        }

        private boolean isEnded(int text) {
            switch (text) {
                case REEL_TEXT: return length == 0 || length % 4 == 3;
                case HAND_TEXT: return true;
                default: return length == 0 || length % 3 == 2;
            }
        }
    }

    /** FLICKS, with room for the one more that soon() tries behind all others. */
    private static final class Flicks {
        private final int[] hour = new int[FLICKS + 1];
        private final int[] reel = new int[FLICKS + 1];
        private int size;

        private void put(int anHour, int aReel) {
            if (size < hour.length) {
                hour[size] = anHour;
                reel[size] = aReel;
                size++;
            }
        }
    }

    /** Rows of three numbers: EVENTS (kind, HOUR, REEL) and what was SEEN (HOUR, REEL, how DEEP). */
    private static final class Trios {
        private final int[] first = new int[TRIOS];
        private final int[] second = new int[TRIOS];
        private final int[] third = new int[TRIOS];
        private int size;

        private void put(int a, int b, int c) {
            if (size < TRIOS) {
                first[size] = a;
                second[size] = b;
                third[size] = c;
                size++;
            }
        }
    }

    /** All that is told and that a day comes of. */
    private static final class City {
        private final int[] sort = new int[REELS];
        private final int[] length = new int[REELS];
        private final int[] holder = new int[REELS];
        private final int[] quick = new int[HANDS];
        private final Flicks flicks = new Flicks();
        private final Trios events = new Trios();
        private int reels;
        private int hands;

        private City() {
            Arrays.fill(quick, 1);
        }

        private void readReels(int[] bytes, int size) {
            reels = 0;
            for (int i = 0; i + 2 < size && reels < REELS; i += 4) {
                sort[reels] = bytes[i] == 'n' ? NEW : bytes[i] == 'w' ? WORN : DAMPED;
                length[reels] = bytes[i + 1] - '0';
                holder[reels] = bytes[i + 2] - '0';
                reels++;
            }
        }

        private void readHands(int[] bytes, int size) {
            hands = size;
            for (int hand = 0; hand < HANDS; hand++) {
                quick[hand] = hand < size ? bytes[hand] - '0' : 1;
            }
        }

        private void readFlicks(int[] bytes, int size) {
            flicks.size = 0;
            for (int i = 0; i + 1 < size; i += 3) {
                flicks.put(bytes[i] - 'a', bytes[i + 1] - '0');
            }
        }

        private int spinsAsleep(int reel) {
            switch (sort[reel]) {
                case NEW: return length[reel];
                case WORN: return length[reel] / 2;
                default: return 1;
            }
        }
    }

    /** One day of the CITY: how things stand behind each HOUR of each REEL (at HOUR * 8 and REEL). */
    private static final class Day {
        private final int[] deep = new int[HOURS * REELS];
        private final int[] state = new int[HOURS * REELS];
        private final int[] spins = new int[HOURS * REELS];
        private final int[] tangled = new int[HOURS * REELS];
        private final int[] deepNow = new int[REELS];
        private final int[] stateNow = new int[REELS];
        private final int[] spinsNow = new int[REELS];
        /** The first HOUR in which a REEL is not, or no longer, TANGLED. */
        private final int[] freeFrom = new int[REELS];
        private final int[] made = new int[HANDS];
        private int misses;
        private int knotHour;
        private int knotReel;

        /** Runs HOURS 0 to last, but for the EVENTS whose bits are set in without. */
        private void run(City city, Flicks flicks, int without, int last) {
            begin();
            for (int hour = 0; hour <= last; hour++) {
                doEvents(city, without, hour);
                doFlicks(city, flicks, hour);
                for (int reel = 0; reel < city.reels; reel++) {
                    if (hour >= freeFrom[reel]) {
                        go(city, reel);
                    }
                }
                tangle(city.reels, hour);
                keep(city.reels, hour);
            }
        }

        private void begin() {
            Arrays.fill(deepNow, 0);
            Arrays.fill(stateNow, UP);
            Arrays.fill(spinsNow, 0);
            Arrays.fill(freeFrom, 0);
            misses = 0;
            knotHour = NONE;
            knotReel = NONE;
        }

        private void doEvents(City city, int without, int hour) {
            Trios events = city.events;
            for (int e = 0; e < events.size; e++) {
                if (events.second[e] != hour || (without >> e & 1) != 0) {
                    continue;
                }
                if (events.first[e] == CUT) {
                    cut(city.reels, events.third[e]);
                } else {
                    damp(city.reels);
                }
            }
        }

        private void cut(int reels, int reel) {
            if (reel < reels && stateNow[reel] != UP) {
                stateNow[reel] = GONE;
                spinsNow[reel] = 0;
                freeFrom[reel] = 0;
            }
        }

        private void damp(int reels) {
            for (int reel = 0; reel < reels; reel++) {
                if (stateNow[reel] == SLEEPS) {
                    spinsNow[reel] = Math.max(0, spinsNow[reel] - 2);
                }
            }
        }

        private void doFlicks(City city, Flicks flicks, int hour) {
            Arrays.fill(made, 0);
            for (int i = 0; i < flicks.size; i++) {
                int reel = flicks.reel[i];
                if (flicks.hour[i] != hour || reel >= city.reels) {
                    continue;
                }
                int hand = city.holder[reel];
                if (made[hand] >= city.quick[hand]) {
                    misses++;
                } else {
                    made[hand]++;
                    pull(reel);
                }
            }
        }

        private void pull(int reel) {
            if (stateNow[reel] == UP) {
                stateNow[reel] = DOWN;
            } else if (stateNow[reel] == SLEEPS) {
                stateNow[reel] = COMES;
                spinsNow[reel] = 0;
            }
        }

        private void go(City city, int reel) {
            switch (stateNow[reel]) {
                case DOWN:
                    deepNow[reel] = Math.min(deepNow[reel] + 2, city.length[reel]);
                    if (deepNow[reel] == city.length[reel]) {
                        sleep(reel, city.spinsAsleep(reel));
                    }
                    break;
                case SLEEPS:
                    sleep(reel, Math.max(0, spinsNow[reel] - 1));
                    break;
                case COMES:
                    rise(reel, 2);
                    break;
                case STUCK:
                    rise(reel, upBeside(city.reels, reel));
                    break;
                default:
                    break;
            }
        }

        private void sleep(int reel, int hours) {
            spinsNow[reel] = hours;
            stateNow[reel] = hours == 0 ? STUCK : SLEEPS;
        }

        private void rise(int reel, int by) {
            deepNow[reel] = Math.max(0, deepNow[reel] - by);
            if (deepNow[reel] == 0) {
                stateNow[reel] = UP;
            }
        }

        private int upBeside(int reels, int reel) {
            int up = 0;
            if (reel > 0 && stateNow[reel - 1] == UP) {
                up++;
            }
            if (reel + 1 < reels && stateNow[reel + 1] == UP) {
                up++;
            }
            return up;
        }

        private void tangle(int reels, int hour) {
            for (int reel = 0; reel + 1 < reels; reel++) {
                if (meets(reel, hour)) {
                    freeFrom[reel] = hour + 3;
                    freeFrom[reel + 1] = hour + 3;
                    if (knotHour == NONE) {
                        knotHour = hour;
                        knotReel = reel;
                    }
                }
            }
        }

        private boolean meets(int reel, int hour) {
            int here = stateNow[reel];
            int beside = stateNow[reel + 1];
            return deepNow[reel] == deepNow[reel + 1]
                && (here == DOWN && beside == COMES || here == COMES && beside == DOWN)
                && hour >= freeFrom[reel] && hour >= freeFrom[reel + 1];
        }

        private void keep(int reels, int hour) {
            for (int reel = 0; reel < reels; reel++) {
                int place = hour * REELS + reel;
                deep[place] = deepNow[reel];
                state[place] = stateNow[reel];
                spins[place] = spinsNow[reel];
                tangled[place] = hour + 1 < freeFrom[reel] ? 1 : 0;
            }
        }

        private int homeOf(int reel) {
            boolean wasAway = false;
            for (int hour = 0; hour < HOURS; hour++) {
                boolean isUp = state[hour * REELS + reel] == UP;
                if (isUp && wasAway) {
                    return hour;
                }
                wasAway = wasAway || !isUp;
            }
            return NONE;
        }

        private int deepestOf(int reel) {
            int deepest = 0;
            for (int hour = 0; hour < HOURS; hour++) {
                deepest = Math.max(deepest, deep[hour * REELS + reel]);
            }
            return deepest;
        }

        private int busiestHour(int reels) {
            int busiest = 0;
            int most = awayBehind(0, reels);
            for (int hour = 1; hour < HOURS; hour++) {
                int away = awayBehind(hour, reels);
                if (away > most) {
                    busiest = hour;
                    most = away;
                }
            }
            return busiest;
        }

        private int awayBehind(int hour, int reels) {
            int away = 0;
            for (int reel = 0; reel < reels; reel++) {
                int what = state[hour * REELS + reel];
                if (what != UP && what != GONE) {
                    away++;
                }
            }
            return away;
        }

        private int lostBits(int reels) {
            int bits = 0;
            for (int reel = 0; reel < reels; reel++) {
                int what = state[LAST * REELS + reel];
                if (what == STUCK || what == GONE) {
                    bits |= 1 << reel;
                }
            }
            return bits;
        }
    }

    /** A row of a FORM, or LOST: its size is NONE then. */
    private static final class Sheet {
        private final int[] items = new int[ITEMS];
        private int form;
        private int size = NONE;

        private boolean isLost() {
            return size == NONE;
        }

        private void renew(int newForm, int n) {
            form = newForm;
            size = n;
            Arrays.fill(items, 0);
        }

        private void put(int i, int v) {
            items[i] = form == 0 ? (byte) v : form == 1 ? (short) v : v;
        }

        private boolean hasRun(int from, int n) {
            return n >= 0 && n <= size && from >= 0 && from <= size - n;
        }
    }
}
