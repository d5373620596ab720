/** A test for each sentence on a boundary of SEEN, CHANCE and DAYS, and of promises 22 to 28. */
public final class EdgesOfSeenTest {
    private static final int BAD = StringReels.BAD, FULL = StringReels.FULL;
    private static final long LONG_BAD = Long.MIN_VALUE + 2;
    private static final Answers is = new Answers();

    public static void main(String[] args) {
        ofOneThatThereIsNot();
        alone();
        sorts();
        spans();
        asks();
        fractions();
        chances();
        lots();
        daysOfNoneAndAll();
        daysOfNoReels();
        seen();
        forget();
        never();
        was();
        ask();
        chance();
        chanceRefused();
        days();
        is.end();
    }

    private static void ofOneThatThereIsNot() {
        is.sentence(0, "behind an HOUR a REEL (0 to 7; of one that there is not it never comes out so) was so DEEP (0 to 9)");
        StringReels x = Answers.told("n10", "", "");
        x.event(1, 0, 0);
        is.due("seen of reel 1", x.seen(0, 1, 0), 1);
        is.due("never", x.never(), 0);
        is.due("sort", x.was(0, 0), 0);
        is.due("span", x.was(0, 1), 0);
        is.due("ask", x.ask(0), 0);
        Answers.type(x, 0, ";n11");
        is.due("there now: never", x.never(), 1);
        is.due("there now: sort", x.was(0, 0), 7);
        is.due("there now: span", x.was(0, 1), 1022);
        x.seen(23, 7, 0);
        is.due("reel 7: sort", x.was(0, 0), 0);
        x.wipe(0);
        is.due("no reels: never", x.never(), 0);
    }

    private static void alone() {
        is.sentence(0, "NEVER: EVENTS each of which, had it alone not been, makes all that was SEEN come out so, as bits.");
        StringReels x = Answers.told("n90", "", "a0");
        is.due("no events, nothing seen", x.never(), 0);
        x.seen(23, 0, 9);
        is.due("no events, as it was", x.never(), 0);
        for (int e = 0; e < 8; e++) {
            x.event(e == 7 ? 0 : 1, e == 7 ? 1 : 0, 0);
        }
        is.due("the eighth alone", x.never(), 128);
        x.forget();
        is.due("nothing seen: each of eight", x.never(), 255);
        x.seen(23, 0, 2);
        is.due("cut indeed: each but the eighth", x.never(), 127);
        x.seen(23, 0, 9);
        is.due("two that cannot both be", x.never(), 0);
        x = Answers.told("n90", "", "a0");
        x.event(0, 1, 0);
        x.event(0, 1, 0);
        x.seen(23, 0, 9);
        is.due("two did it: neither alone", x.never(), 0);
        x.back();
        is.due("one did it", x.never(), 1);
        is.due("it is as told", x.at(23, 0, 1), 5);
    }

    private static void sorts() {
        is.sentence(0, "SORT of a REEL: 0 n, 1 w, 2 d, in place of its own, likewise, as bits.");
        StringReels x = Answers.told("d40;n11", "", "a0");
        is.due("nothing seen", x.was(0, 0), 7);
        x.seen(1, 0, 4);
        is.due("as all are", x.was(0, 0), 7);
        x.seen(4, 0, 4);
        is.due("a new one alone", x.was(0, 0), 1);
        x.forget();
        x.seen(4, 0, 3);
        is.due("a worn one alone", x.was(0, 0), 2);
        x.forget();
        x.seen(4, 0, 2);
        is.due("a damp one alone", x.was(0, 0), 4);
        x.seen(4, 0, 3);
        is.due("none", x.was(0, 0), 0);
        is.due("its own is as it was", x.reel(0, 0), 2);
    }

    private static void spans() {
        is.sentence(0, "SPAN of a REEL: how LONG (1 to 9), in place of its own, likewise, as bits (bit 1 on).");
        for (int length = 1; length <= 9; length++) {
            StringReels x = Answers.told("n50", "", "a0");
            is.due("nothing seen", x.was(0, 1), 1022);
            x.seen(23, 0, length);
            is.due(length + " alone", x.was(0, 1), 1 << length);
            is.due("its own is as it was", x.reel(0, 1), 5);
        }
        StringReels x = Answers.told("n50", "", "a0");
        x.seen(0, 0, 2);
        is.due("2 on", x.was(0, 1), 1020);
        x.seen(3, 0, 8);
        is.due("8 on", x.was(0, 1), 768);
        x.seen(23, 0, 0);
        is.due("none", x.was(0, 1), 0);
    }

    private static void asks() {
        is.sentence(0, "ASK of a REEL: the HOUR behind which the greatest number of those of SPAN by which it is as DEEP is least, of like ones the least.");
        is.due("never away: all alike in each hour", Answers.told("n10", "", "").ask(0), 0);
        StringReels x = Answers.told("n10", "", "a0");
        is.due("all apart behind 4 on", x.ask(0), 4);
        x.seen(0, 0, 1);
        is.due("one left: any hour", x.ask(0), 0);
        x.seen(0, 0, 2);
        is.due("none left: any hour", x.ask(0), 0);
        x.forget();
        x.seen(3, 0, 8);
        is.due("8 and 9 left", x.ask(0), 4);
        x.forget();
        x.seen(1, 0, 3);
        is.due("3 left", x.ask(0), 0);
        x.forget();
        x.seen(1, 0, 4);
        // Of 4 to 9 four go by 6 behind hour 2, two by 8 behind hour 3, none by another one's behind hour 4.
        is.due("4 on left", x.ask(0), 4);
        is.due("only the last hour tells", Answers.told("n10", "", "x0").ask(0), 23);
        is.due("of the last two the last tells more", Answers.told("n10", "", "w0").ask(0), 23);
        is.due("of another one: all alike", Answers.told("n10;n11", "", "a0").ask(1), 0);
    }

    private static void fraction(String name, StringReels x, int c, int reel, int hour, long above, long below) {
        is.due(name + ": above", x.chance(c, reel, hour, 0), above);
        is.due(name + ": below", x.chance(c, reel, hour, 1), below);
    }

    private static StringReels cuts(int n) {
        StringReels x = Answers.told("n20", "", "a0;b0");
        for (int i = 0; i < n; i++) {
            x.event(0, 1, 0);
        }
        return x;
    }

    private static void fractions() {
        is.sentence(0, "FRACTIONS are told in lowest terms, above and below (0 by 1).");
        fraction("0 by 1, of no events", cuts(0), 5, 0, 0, 0, 1);
        fraction("0 by 1, of eight", cuts(8), 5, 0, 0, 0, 1);
        fraction("0 by 1, surely cut", cuts(8), 16, 0, 1, 0, 1);
        fraction("1 by 1, of no events", cuts(0), 5, 0, 1, 1, 1);
        fraction("1 by 1, surely not cut", cuts(8), 0, 0, 1, 1, 1);
        fraction("8 by 16", cuts(1), 8, 0, 1, 1, 2);
        fraction("12 by 16", cuts(1), 4, 0, 1, 3, 4);
        fraction("15 by 16", cuts(1), 1, 0, 1, 15, 16);
        fraction("1 by 16", cuts(1), 15, 0, 1, 1, 16);
    }

    private static void chances() {
        is.sentence(0, "CHANCE: each of EVENTS is by c sixteenths (0 to 16), by itself: the chance that a REEL is UP behind an HOUR: a FRACTION.");
        StringReels x = cuts(8);
        long[][] due = {{0, 1, 1}, {1, 2562890625L, 4294967296L}, {2, 5764801, 16777216}, {4, 6561, 65536},
            {8, 1, 256}, {12, 1, 65536}, {15, 1, 4294967296L}, {16, 0, 1}};
        for (long[] row : due) {
            fraction("eight, by " + row[0], x, (int) row[0], 0, 1, row[1], row[2]);
            fraction("eight, by " + row[0] + ", behind 23", x, (int) row[0], 0, 23, row[1], row[2]);
        }
        x = Answers.told("n20;n21", "", "a0;c0;b1");
        // Reel 0 comes up in hour 2 but for the damp of hour 1, and is lifted then but for reel 1, away in hours 1 on.
        x.event(1, 1, 0);
        x.event(0, 2, 1);
        fraction("the damp is by itself", x, 4, 0, 2, 3, 4);
        fraction("reel 1 is down whatever", x, 4, 1, 1, 0, 1);
        x.event(1, 1, 0);
        fraction("either damp", x, 4, 0, 2, 9, 16);
        fraction("reel 7 is none", Answers.told(Answers.times(8, "n10"), "", ""), 16, 7, 23, 1, 1);
        is.due("today is as told", x.at(1, 0, 1), 4);
        is.due("events are as told", x.count(6), 3);
    }

    private static void lots() {
        is.sentence(0, "LOTS of m: SEED becomes 1103515245 SEED and 12345, as ints that wrap; its upper 16 bits as a number from 0 on, modulo m.");
        // A seed, a LOT of 24, then LOTS of 2 to 8; some of the numbers are above 32767, some seeds wrap.
        int[][] due = {{0, 0, 0, 2, 0, 1, 2, 0, 4}, {1, 14, 0, 0, 2, 1, 0, 5, 6}, {7, 12, 0, 2, 2, 1, 2, 6, 6},
            {-1, 1, 1, 2, 1, 4, 5, 6, 1}, {Integer.MAX_VALUE, 17, 1, 1, 1, 2, 1, 0, 1},
            {Integer.MIN_VALUE, 8, 0, 0, 0, 3, 0, 6, 4}, {65536, 13, 1, 2, 1, 4, 5, 5, 5}};
        for (int[] row : due) {
            for (int reels = 2; reels <= 8; reels++) {
                for (int reel = 0; reel < reels; reel++) {
                    boolean drawn = reel == row[reels];
                    String name = "seed " + row[0] + " of " + reels + ": ";
                    is.due(name + "cut in its hour", lostByCut(row[0], reels, reel, row[1]), 0);
                    is.due(name + "cut in the next", lostByCut(row[0], reels, reel, row[1] + 1), drawn ? 1 : 0);
                }
            }
        }
    }

    /** How many are LOST by one FLICK by a seed and a CUT: it tells whose the FLICK is, and that it is ahead of the CUT. */
    private static int lostByCut(int seed, int reels, int reel, int hour) {
        StringReels x = Answers.told(Answers.times(reels, "n10"), "", "");
        x.event(0, hour, reel);
        return x.days(seed, 1, 0);
    }

    private static void daysOfNoneAndAll() {
        is.sentence(0, "DAYS by a SEED: n FLICKS (0 to 16), in place of those told");
        StringReels x = Answers.told("w10", "", "a0;a0;a0");
        is.due("lost as told", x.lost(), 1);
        is.due("missed as told", x.missed(), 2);
        is.due("none: lost", x.days(0, 0, 0), 0);
        is.due("none: missed", x.days(0, 0, 1), 0);
        is.due("one: lost", x.days(0, 1, 0), 1);
        is.due("one: missed", x.days(0, 1, 1), 0);
        int[][] due = {{0, 3, 4}, {1, 3, 3}, {7, 2, 3}, {-1, 3, 3}, {Integer.MAX_VALUE, 2, 3}, {Integer.MIN_VALUE, 4, 4}};
        for (int[] row : due) {
            is.due("fifteen by " + row[0], x.days(row[0], 15, 1), row[1]);
            is.due("sixteen by " + row[0], x.days(row[0], 16, 1), row[2]);
            is.due("one is lost", x.days(row[0], 16, 0), 1);
        }
        StringReels quick = Answers.told("w10", "2", "");
        is.due("by a hand of 2: of hours 17, 17, 17 one", quick.days(1, 16, 1), 1);
        is.due("flicks are as told", x.count(2), 3);
        is.due("missed as told", x.missed(), 2);
    }

    private static void daysOfNoReels() {
        is.sentence(0, "(none where there are no REELS): of each a LOT of 24 (its HOUR), a LOT of REELS: how many REELS are LOST; how many FLICKS are MISSED.");
        for (int n = 0; n <= 16; n++) {
            is.due("no reels: lost of " + n, new StringReels().days(7, n, 0), 0);
            is.due("no reels: missed of " + n, new StringReels().days(7, n, 1), 0);
        }
        is.due("no reels, by a fault", Answers.told("w10;", "", "").days(7, 16, 1), 0);
        is.due("a number, not bits", Answers.told("n10;w91;w92;w93", "", "").days(5, 16, 0),
            lostOf("n10;w91;w92;w93", 5));
    }

    /** How many are LOST of the same FLICKS, told. */
    private static int lostOf(String reels, int seed) {
        StringReels x = Answers.told(reels, "", "");
        int s = seed;
        for (int i = 0; i < 16; i++) {
            s = s * 1103515245 + 12345;
            int hour = (s >>> 16) % 24;
            s = s * 1103515245 + 12345;
            Answers.type(x, 2, (i == 0 ? "" : ";") + (char) ('a' + hour) + (s >>> 16) % x.count(0));
        }
        return Integer.bitCount(x.lost());
    }

    private static void seen() {
        is.sentence(22, "SEEN more: how many. BAD; FULL.");
        is.sentence(0, "SEEN, 8 at most");
        is.taken("seen hour", hour -> new StringReels().seen(hour, 0, 0), 0, 23);
        is.taken("seen reel", reel -> new StringReels().seen(0, reel, 0), 0, 7);
        is.taken("seen deep", deep -> new StringReels().seen(0, 0, deep), 0, 9);
        StringReels x = new StringReels();
        for (int i = 1; i <= 8; i++) {
            is.due("seen", x.seen(23, 7, 9), i);
            is.due("count 7", x.count(7), i);
        }
        is.due("full", x.seen(0, 0, 0), FULL);
        int[][] none = {{-1, 0, 0}, {24, 0, 0}, {0, -1, 0}, {0, 8, 0}, {0, 0, -1}, {0, 0, 10}};
        for (int[] one : none) {
            is.due("no such, and full", x.seen(one[0], one[1], one[2]), BAD);
        }
        is.due("as many as were", x.count(7), 8);
        x = Answers.told("n90", "", "a0");
        for (int i = 0; i < 7; i++) {
            x.seen(23, 0, 9);
        }
        is.due("seven come out", x.was(0, 1), 512);
        x.seen(23, 0, 8);
        is.due("the eighth does not", x.was(0, 1), 0);
    }

    private static void forget() {
        is.sentence(23, "All SEEN are forgotten: how many.");
        StringReels x = Answers.told("n90", "", "a0");
        is.due("none", x.forget(), 0);
        for (int i = 0; i < 8; i++) {
            x.seen(0, 0, 9);
        }
        is.due("none comes out", x.was(0, 1), 0);
        is.due("eight", x.forget(), 8);
        is.due("none are left", x.count(7), 0);
        is.due("any comes out", x.was(0, 1), 1022);
        is.due("none again", x.forget(), 0);
        is.due("seen anew", x.seen(0, 0, 0), 1);
    }

    private static void never() {
        is.sentence(24, "NEVER, as bits.");
        StringReels x = new StringReels();
        is.due("of a new object", x.never(), 0);
        for (int n = 1; n <= 8; n++) {
            x.event(1, 0, 0);
            is.due("of " + n, x.never(), (1 << n) - 1);
        }
    }

    private static void was() {
        is.sentence(25, "SORT (what = 0), SPAN (1), as bits. BAD.");
        StringReels x = Answers.told("n10;n11", "", "");
        is.taken("sort of", reel -> x.was(reel, 0), 0, 1);
        is.taken("span of", reel -> x.was(reel, 1), 0, 1);
        is.taken("was what", what -> x.was(0, what), 0, 1);
        is.due("sort", x.was(1, 0), 7);
        is.due("span", x.was(1, 1), 1022);
        StringReels all = Answers.told(Answers.times(8, "n10"), "", "");
        is.taken("sort of eight", reel -> all.was(reel, 0), 0, 7);
        is.due("of no reels", new StringReels().was(0, 0), BAD);
    }

    private static void ask() {
        is.sentence(26, "ASK. BAD.");
        StringReels x = Answers.told("n10;n11", "", "x1");
        is.taken("ask of", x::ask, 0, 1);
        is.due("reel 0", x.ask(0), 0);
        is.due("reel 1", x.ask(1), 23);
        StringReels all = Answers.told(Answers.times(8, "n10"), "", "");
        is.taken("ask of eight", all::ask, 0, 7);
        is.due("of no reels", new StringReels().ask(0), BAD);
    }

    private static void chance() {
        is.sentence(27, "CHANCE: above, below. BAD.");
        StringReels x = cuts(1);
        is.taken("chance c", c -> x.chance(c, 0, 0, 0), 0, 16, LONG_BAD);
        is.taken("chance reel", reel -> x.chance(0, reel, 0, 0), 0, 0, LONG_BAD);
        is.taken("chance hour", hour -> x.chance(0, 0, hour, 0), 0, 23, LONG_BAD);
        is.taken("chance what", what -> x.chance(0, 0, 0, what), 0, 1, LONG_BAD);
        is.due("above", x.chance(4, 0, 1, 0), 3);
        is.due("below", x.chance(4, 0, 1, 1), 4);
        StringReels all = Answers.told(Answers.times(8, "n10"), "", "");
        is.taken("chance of eight", reel -> all.chance(16, reel, 23, 1), 0, 7, LONG_BAD);
    }

    private static void chanceRefused() {
        is.sentence(27, "(As the least long and x more.)");
        is.sentence(0, "Where the answer is a long, a refusal -x is the least long and x more.");
        is.due("of no reels", new StringReels().chance(0, 0, 0, 0), -9223372036854775806L);
        is.due("all is wrong", new StringReels().chance(-1, -1, -1, -1), -9223372036854775806L);
    }

    private static void days() {
        is.sentence(28, "DAYS: how many are LOST (what = 0), MISSED (1). BAD.");
        StringReels x = Answers.told("w10", "", "");
        is.taken("days n", n -> x.days(0, n, 0), 0, 16);
        is.taken("days what", what -> x.days(0, 0, what), 0, 1);
        for (int seed : new int[] {Integer.MIN_VALUE, -1, 0, 1, Integer.MAX_VALUE}) {
            is.due("any seed is one: " + seed, x.days(seed, 1, 0), 1);
            is.due("any seed is one: " + seed, x.days(seed, 1, 1), 0);
        }
        StringReels none = new StringReels();
        is.taken("days n of no reels", n -> none.days(0, n, 0), 0, 16);
        is.taken("days what of no reels", what -> none.days(0, 0, what), 0, 1);
    }
}
