/** Promise 36: digest() by the public answers, and that it changes nothing. */
public final class DigestTest {
    private static final Answers is = new Answers();
    private static long h;

    public static void main(String[] args) {
        check("new", new StringReels());
        check("a fault", Answers.told("n50;", "0", "a"));
        check("one", Answers.told("n50", "", "b0;e0"));
        StringReels x = Answers.told("n60;w90;d41;n21;w52;n93;w84;d75", "213", "a0;a1;b2;c3;d4;e5;f6;g7;h0;i1;j2;k3;l4;m5;n6;o7");
        check("all", x);
        for (int i = 0; i < 8; i++) {
            x.event(i % 2, 3 * i, i);
            check("event " + i, x);
        }
        x.seen(3, 0, x.at(3, 0, 0));
        check("seen", x);
        x.sheet(0, 0, -1);
        check("a finding", x);
        is.due("the finding is as it was", x.count(8), 5);
        tellingOnes();
        is.end();
    }

    /** Cities of which each answer is unlike those beside it: another HOUR, c or number would be another digest. */
    private static void tellingOnes() {
        StringReels x = Answers.told("n10;n40;n92", "", "a1;c1;c2");
        is.holds("the knot's hour is not its reel", x.knot(0) != x.knot(1));
        check("a knot", x);
        x = Answers.told("n20;n21", "", "a0;b1;c0;d1");
        for (int hour : new int[] {1, 2, 2, 1}) {
            x.event(1, hour, 0);
        }
        is.holds("the first spared is not the second, nor how many", x.spare(0) == 0 && x.spare(1) == 3);
        check("two spared", x);
        x = Answers.told("n10", "", "l0;m0;n0");
        x.event(0, 12, 0);
        is.due("up behind 12 alone", x.chance(5, 0, 12, 0), 11);
        is.due("not behind 11", x.chance(5, 0, 11, 0), 0);
        is.due("not behind 13", x.chance(5, 0, 13, 0), 0);
        check("up behind 12 alone", x);
        for (String reels : new String[] {"n51;d37", "n21;d93;d65;d92;n32;w94;w67"}) {
            x = Answers.told(reels, "", "");
            is.holds("eleven flicks are another day", x.days(7, 11, 0) != x.days(7, 12, 0));
            check("days", x);
        }
        is.holds("thirteen flicks are another day", x.days(7, 13, 0) != x.days(7, 12, 0));
    }

    private static void add(long... answers) {
        for (long a : answers) {
            h = 31 * h + a;
        }
    }

    private static void check(String name, StringReels x) {
        long first = x.digest();
        h = 17;
        for (int what = 0; what <= 7; what++) add(x.count(what));
        for (int text = 0; text <= 2; text++) add(x.fault(text));
        for (int hand = 0; hand <= 7; hand++) add(x.hand(hand));
        for (int i = 0; i <= 15; i++) add(x.flick(i, 0), x.flick(i, 1));
        for (int r = 0; r < x.count(0); r++) {
            add(x.reel(r, 0), x.reel(r, 1), x.reel(r, 2));
            for (int hour : new int[] {0, 5, 11, 23}) {
                add(x.at(hour, r, 0), x.at(hour, r, 1), x.at(hour, r, 2), x.at(hour, r, 3));
            }
            add(x.home(r, 0), x.home(r, 1), x.soon(r, 0), x.soon(r, 1), x.give(r, 0), x.give(r, 1));
            add(x.spool(r, 0), x.spool(r, 1), x.was(r, 0), x.was(r, 1), x.ask(r));
            add(x.chance(5, r, 12, 0), x.chance(5, r, 12, 1));
        }
        add(x.missed(), x.knot(0), x.knot(1), x.busy(), x.lost(), x.spare(-1), x.spare(0), x.never());
        add(x.days(7, 12, 0), x.days(7, 12, 1));
        is.due("digest of " + name, first, h);
        is.due("digest of " + name + " again", x.digest(), h);
    }
}
