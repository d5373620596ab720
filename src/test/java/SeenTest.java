/** Promises 22 to 28: SEEN, NEVER, SORT, SPAN, ASK, CHANCE, DAYS. */
public final class SeenTest {
    private static final Answers is = new Answers();

    public static void main(String[] args) {
        seen();
        never();
        sorts();
        spans();
        chances();
        days();
        refusals();
        is.end();
    }

    private static void seen() {
        StringReels x = new StringReels();
        is.due("forget of none", x.forget(), 0);
        for (int i = 1; i <= 8; i++) {
            is.due("seen", x.seen(23, 7, 9), i);
        }
        is.due("seen when full", x.seen(0, 0, 0), StringReels.FULL);
        is.due("bad seen when full", x.seen(0, 0, 10), StringReels.BAD);
        is.due("count 7", x.count(7), 8);
        is.due("forget", x.forget(), 8);
        is.due("forgotten", x.count(7), 0);
        is.due("seen again", x.seen(0, 0, 0), 1);
    }

    private static void never() {
        StringReels x = Answers.told("n90", "", "a0");
        is.due("never of no events", x.never(), 0);
        x.event(0, 2, 0);
        x.event(1, 3, 0);
        x.event(0, 3, 0);
        is.due("nothing seen", x.never(), 7);
        x.seen(1, 0, 4);
        is.due("as it was anyhow", x.never(), 7);
        x.seen(2, 0, 6);
        is.due("the first cut never was", x.never(), 1);
        x.seen(3, 0, 8);
        is.due("it alone is not enough", x.never(), 0);
        is.due("events as they were", x.at(2, 0, 1), 5);
        x.forget();
        x.seen(3, 0, 4);
        is.due("not the first cut", x.never(), 6);
        x.seen(0, 1, 0);
        is.due("of a reel that there is not", x.never(), 0);
        x = Answers.told("n90;n91", "", "v0;v1");
        x.event(0, 23, 1);
        x.event(0, 23, 0);
        x.seen(23, 1, 6);
        is.due("of reel 1 in the last hour", x.never(), 1);
        x.seen(23, 0, 6);
        is.due("of both in the last hour", x.never(), 0);
        x.forget();
        x.seen(23, 0, 6);
        is.due("of reel 0 in the last hour", x.never(), 2);
    }

    private static void sorts() {
        StringReels x = Answers.told("n40;n11", "", "a0");
        is.due("any sort", x.was(0, 0), 7);
        x.seen(4, 0, 3);
        is.due("worn", x.was(0, 0), 2);
        x.forget();
        x.seen(4, 0, 2);
        is.due("damp", x.was(0, 0), 4);
        x.forget();
        x.seen(6, 0, 3);
        is.due("new", x.was(0, 0), 1);
        is.due("its sort is as it was", x.reel(0, 0), 0);
        x.seen(23, 1, 0);
        is.due("of another one too", x.was(0, 0), 1);
        is.due("of another one in its place", x.was(1, 0), 7);
        x.seen(23, 1, 1);
        is.due("none", x.was(0, 0), 0);
        x.forget();
        x.seen(0, 2, 0);
        is.due("of a reel that there is not", x.was(0, 0), 0);
        x = Answers.told("n11;n20", "", "v1");
        x.seen(23, 1, 1);
        is.due("worn or damp, by the last hour", x.was(1, 0), 6);
        x.forget();
        x.seen(23, 1, 2);
        is.due("not yet up in the last hour", x.was(1, 0), 1);
    }

    private static void spans() {
        StringReels x = Answers.told("n60", "", "a0");
        is.due("any length", x.was(0, 1), 1022);
        is.due("ask of any length", x.ask(0), 4);
        x.seen(2, 0, 6);
        is.due("6 on", x.was(0, 1), 960);
        is.due("ask of 6 on", x.ask(0), 4);
        x.forget();
        x.seen(2, 0, 5);
        is.due("5", x.was(0, 1), 32);
        is.due("ask of one", x.ask(0), 0);
        x.forget();
        x.seen(0, 0, 2);
        x.seen(2, 0, 4);
        x.seen(9, 0, 4);
        is.due("4", x.was(0, 1), 16);
        x.seen(9, 0, 5);
        is.due("none", x.was(0, 1), 0);
        is.due("ask of none", x.ask(0), 0);
        is.due("its length is as it was", x.reel(0, 1), 6);
        x = Answers.told("n60", "", "h0");
        x.seen(8, 0, 3);
        is.due("3 alone", x.was(0, 1), 8);
        x.forget();
        x.seen(7, 0, 2);
        is.due("2 on", x.was(0, 1), 1020);
        // Behind hours 0 to 6 all eight are alike; 11 is the first that sets all of them apart.
        is.due("ask of 2 on", x.ask(0), 11);
        x = Answers.told("n60", "", "x0");
        is.due("ask of the last hour", x.ask(0), 23);
        x.seen(23, 0, 1);
        is.due("1, by the last hour", x.was(0, 1), 2);
    }

    private static void chance(String name, StringReels x, int c, int hour, long above, long below) {
        is.due("chance above: " + name, x.chance(c, 0, hour, 0), above);
        is.due("chance below: " + name, x.chance(c, 0, hour, 1), below);
    }

    private static void chances() {
        StringReels x = Answers.told("n20", "", "a0;b0");
        chance("no events, up", x, 5, 1, 1, 1);
        chance("no events, away", x, 5, 0, 0, 1);
        x.event(0, 1, 0);
        chance("4 sixteenths", x, 4, 1, 3, 4);
        chance("6 sixteenths", x, 6, 23, 5, 8);
        chance("never", x, 0, 1, 1, 1);
        chance("always", x, 16, 1, 0, 1);
        chance("ahead of it", x, 4, 0, 0, 1);
        x.event(0, 1, 0);
        chance("two", x, 4, 1, 9, 16);
        chance("two", x, 16, 1, 0, 1);
        for (int i = 0; i < 6; i++) {
            x.event(0, 1, 0);
        }
        chance("eight", x, 1, 1, 2562890625L, 4294967296L);
        chance("eight", x, 15, 1, 1, 4294967296L);
        x.back();
        chance("cuts undone", x, 15, 1, 1, 268435456);
        x = Answers.told("n20;n21", "", "a0;b0;a1;b1");
        x.event(0, 1, 1);
        chance("a cut of another one", x, 8, 1, 1, 1);
        is.due("of the other one", x.chance(8, 1, 1, 0), 1);
        is.due("of the other one", x.chance(8, 1, 1, 1), 2);
        // Only both damps, at once, keep the flick of hour 5 from bringing it up.
        x = Answers.told("n50", "", "a0;f0");
        x.event(1, 3, 0);
        x.event(1, 4, 0);
        chance("both damps", x, 8, 7, 3, 4);
        chance("events are as they were", x, 16, 7, 0, 1);
        chance("an event more: ahead", x, 8, 7, 3, 4);
        x.event(0, 6, 0);
        chance("an event more", x, 8, 7, 3, 8);
        x.back();
        chance("an event less", x, 8, 7, 3, 4);
        chance("another hour", x, 8, 5, 0, 1);
        x.undo(2);
        Answers.type(x, 2, "1");
        chance("another flick", x, 8, 7, 0, 1);
        x.undo(2);
        Answers.type(x, 2, "0");
        is.due("today is as it was", x.at(7, 0, 1), 4);
    }

    /** The same FLICKS by longs, told to another object. */
    private static void day(String reels, String hands, int seed, int n) {
        StringReels x = Answers.told(reels, hands, "a0;b1");
        StringReels y = Answers.told(reels, hands, "");
        long s = seed & 0xffffffffL;
        for (int i = 0; i < n; i++) {
            s = (s * 1103515245L + 12345L) % 4294967296L;
            y.type(2, 'a' + (int) ((s >> 16) % 24));
            s = (s * 1103515245L + 12345L) % 4294967296L;
            y.type(2, '0' + (int) ((s >> 16) % x.count(0)));
            if (i + 1 < n) {
                y.type(2, ';');
            }
        }
        for (StringReels z : new StringReels[] {x, y}) {
            z.event(0, 12, 0);
            z.event(1, 9, 0);
        }
        is.due("days told", y.count(2), n);
        is.due("days lost " + seed + " " + n, x.days(seed, n, 0), Integer.bitCount(y.lost()));
        is.due("days missed " + seed + " " + n, x.days(seed, n, 1), y.missed());
        is.due("flicks as they were", x.count(2), 2);
        is.due("flicks as they were", x.flick(1, 0), 1);
    }

    private static void days() {
        for (int seed : new int[] {0, 1, 7, -1, 65536, Integer.MAX_VALUE, Integer.MIN_VALUE, 1234567}) {
            for (int n = 0; n <= 16; n++) {
                day("n60;w90;d41;n21;w52;n93;w84;d75", "11", seed, n);
                day("n30;w30;n30", "", seed, n);
                day("w10", "", seed, n);
            }
        }
        StringReels x = Answers.told("", "", "a0;a0");
        is.due("no reels: lost", x.days(7, 16, 0), 0);
        is.due("no reels: missed", x.days(7, 16, 1), 0);
    }

    private static void refusals() {
        StringReels x = Answers.told("n10;n10", "", "");
        long bad = Long.MIN_VALUE + 2;
        for (int n : new int[] {-1, 2, Integer.MAX_VALUE, Integer.MIN_VALUE}) {
            is.due("was reel", x.was(n, 0), StringReels.BAD);
            is.due("was what", x.was(0, n), StringReels.BAD);
            is.due("ask reel", x.ask(n), StringReels.BAD);
            is.due("chance reel", x.chance(0, n, 0, 0), bad);
            is.due("chance what", x.chance(0, 0, 0, n), bad);
            is.due("days what", x.days(0, 0, n), StringReels.BAD);
        }
        is.due("chance c -1", x.chance(-1, 0, 0, 0), bad);
        is.due("chance c 17", x.chance(17, 0, 0, 0), bad);
        is.due("chance hour -1", x.chance(0, 0, -1, 0), bad);
        is.due("chance hour 24", x.chance(0, 0, 24, 0), bad);
        is.due("days n -1", x.days(0, -1, 0), StringReels.BAD);
        is.due("days n 17", x.days(0, 17, 0), StringReels.BAD);
        is.due("seen hour -1", x.seen(-1, 0, 0), StringReels.BAD);
        is.due("seen hour 24", x.seen(24, 0, 0), StringReels.BAD);
        is.due("seen reel -1", x.seen(0, -1, 0), StringReels.BAD);
        is.due("seen reel 8", x.seen(0, 8, 0), StringReels.BAD);
        is.due("seen deep -1", x.seen(0, 0, -1), StringReels.BAD);
        is.due("seen deep 10", x.seen(0, 0, 10), StringReels.BAD);
        is.due("refused", x.count(7), 0);
    }
}
