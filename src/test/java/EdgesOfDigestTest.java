import java.util.ArrayList;
import java.util.List;

/** A test for each boundary of promise 36: the digest of none and of all, by numbers worked out by hand. */
public final class EdgesOfDigestTest {
    private static final Answers is = new Answers();

    public static void main(String[] args) {
        ofNone();
        ofOne();
        ofFaults();
        wraps();
        ofAll();
        changesNothing();
        is.end();
    }

    private static final class Row {
        private final List<Long> answers = new ArrayList<>();

        private Row add(long... more) {
            for (long one : more) answers.add(one);
            return this;
        }

        private Row times(int n, long one) {
            for (int i = 0; i < n; i++) answers.add(one);
            return this;
        }

        private long digest() {
            long h = 17;
            for (long one : answers) h = 31 * h + one;
            return h;
        }
    }

    private static void ofNone() {
        is.sentence(36, "h is 17; h becomes 31 h and each of (of each thing all that is told of it, then of the next one): count() 0 to 7; of texts fault(); of HANDS 0 to 7 hand(); of FLICKS 0 to 15 flick() 0, 1");
        is.sentence(36, "missed(), knot() 0, 1, busy(), lost(), spare(NONE), spare(0), never(), days(7, 12, 0 and 1)");
        Row row = new Row().times(8, 0).times(3, -1).times(8, 1).times(32, -1);
        row.add(0, -1, -1, 0, 0, 0, -1, 0, 0, 0);
        is.due("digest of none", new StringReels().digest(), row.digest());
    }

    private static void ofOne() {
        is.sentence(36, "of REELS reel() 0 to 2, of HOURS 0, 5, 11, 23 at(the HOUR, it, 0 to 3), then home() 0, 1, soon() 0, 1, give() 0, 1, spool() 0, 1, was() 0, 1, ask(), chance(5, it, 12), above, below");
        StringReels x = Answers.told("n23", "2", "f0;g0");
        Row row = new Row().add(1, 1, 2, 3, 1, 5, 0, 0).times(3, -1).add(2).times(7, 1);
        row.add(5, 0, 6, 0).times(28, -1);
        row.add(0, 2, 3);
        row.add(0, 0, 0, 0, 2, 2, 2, 0, 0, 0, 0, 0, 0, 0, 0, 0);
        // Home in hour 6; one flick more in hour 0 leaves it stuck, in hours 3 and 4 has it asleep for that of hour 5.
        row.add(6, 2, 3, 5);
        // By hour 8 those 1 and 2 long are up, those 3 to 7 long as deep as that, those of 8 and 9 both 8 deep.
        row.add(0, 0, 1, 0, 7, 1022, 8, 1, 1);
        // By the days of seed 7 its flicks are in hours 12 20 11 18 17 5 14 13 1 6 20 15: stuck since hour 3, one missed.
        row.add(0, -1, -1, 5, 0, 0, -1, 0, 1, 1);
        is.due("digest of one", x.digest(), row.digest());
    }

    private static void ofFaults() {
        is.sentence(36, "of texts fault()");
        StringReels x = Answers.told("n1", "90", "a0;");
        Row row = new Row().add(0, 0, 0, 2, 2, 3, 0, 0, 2, 1, 3).times(8, 1).times(32, -1);
        row.add(0, -1, -1, 0, 0, 0, -1, 0, 0, 0);
        is.due("digest of faults", x.digest(), row.digest());
    }

    private static void wraps() {
        is.sentence(36, "as longs that wrap.");
        // 61 answers: 31 to that power is far above a long, so that the answer is one that wrapped.
        java.math.BigInteger h = java.math.BigInteger.valueOf(17);
        Row row = new Row().times(8, 0).times(3, -1).times(8, 1).times(32, -1).add(0, -1, -1, 0, 0, 0, -1, 0, 0, 0);
        for (long one : row.answers) {
            h = h.multiply(java.math.BigInteger.valueOf(31)).add(java.math.BigInteger.valueOf(one));
        }
        is.holds("more than a long", h.bitLength() > 64);
        is.due("its lowest 64 bits", new StringReels().digest(), h.longValue());
    }

    private static void ofAll() {
        is.sentence(36, "(of each thing all that is told of it, then of the next one)");
        StringReels x = Answers.told(Answers.times(8, "w90"), "98765432", Answers.times(16, "x7"));
        for (int i = 0; i < 8; i++) {
            x.event(1, 0, i);
            x.seen(0, i, 0);
        }
        Row row = new Row().add(8, 8, 16, 31, 8, 47, 8, 8).times(3, -1).add(9, 8, 7, 6, 5, 4, 3, 2);
        for (int i = 0; i < 16; i++) row.add(23, 7);
        for (int reel = 0; reel < 8; reel++) {
            row.add(1, 9, 0).times(12, 0);
            boolean last = reel == 7;
            row.add(last ? 2 : 0, last ? 1 : 0, 0, 0);
            row.add(-1, last ? 2 : 0);
            // One flick more in hour 0 brings it down to 9 by hour 4, stuck in hour 8, lifted by those beside it.
            boolean between = reel > 0 && !last;
            row.add(0, between ? 13 : 17);
            row.add(0, 7);
            row.add(last ? 2 : 1, 0);
            row.add(7, 1022, last ? 23 : 0, 1, 1);
        }
        row.add(7, -1, -1, 23, 0, 0, -1, 255, x.days(7, 12, 0), x.days(7, 12, 1));
        is.due("digest of all", x.digest(), row.digest());
    }

    private static void changesNothing() {
        is.sentence(36, "count() 0 to 7");
        StringReels x = Answers.told("n40;n91", "", "a0;c0;c1");
        x.event(0, 3, 0);
        long first = x.digest();
        x.lose(0);
        is.due("count() 8 is none of it", x.digest(), first);
        is.due("it keeps the finding", x.count(8), 1);
        is.due("again", x.digest(), first);
        x.seen(0, 0, 2);
        is.holds("a sight more is another digest", x.digest() != first);
        x.forget();
        is.due("as before", x.digest(), first);
    }
}
