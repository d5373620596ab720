/** A test for each sentence on a boundary of what is told of HOURS and of the day, and of promises 12 to 17. */
public final class EdgesOfDayTest {
    private static final int NONE = StringReels.NONE, BAD = StringReels.BAD;
    private static final Answers is = new Answers();

    public static void main(String[] args) {
        spinsYet();
        tangledBehind();
        homes();
        misses();
        knots();
        busiest();
        lostOnes();
        deepest();
        at();
        home();
        missed();
        knot();
        busy();
        lost();
        is.end();
    }

    private static void spinsYet() {
        is.sentence(0, "how DEEP; what it is (0 to 5); for how many HOURS it SPINS yet (0, unless it SLEEPS)");
        StringReels x = Answers.told("n90", "", "a0;g0");
        is.row("it comes, 8 yet to go", x, 0, 2, "000098000000");
        is.row("it comes", x, 0, 1, "11112233330");
        x = Answers.told("n90", "", "a0");
        x.event(0, 6, 0);
        is.row("it is gone, 8 yet to go", x, 0, 2, "000098000000");
        x = Answers.told("n90", "", "a0");
        is.row("it goes down, sleeps, is stuck", x, 0, 2, "000098765432100000000000");
    }

    private static void tangledBehind() {
        is.sentence(0, "whether it is TANGLED (so that it would not go in the next HOUR)");
        StringReels x = Answers.told("n40;n91", "", "a0;c0;c1");
        for (int hour = 0; hour < 24; hour++) {
            boolean stays = hour == 2 || hour == 3;
            is.due("tangled behind " + hour, x.at(hour, 0, 3), stays ? 1 : 0);
            is.due("tangled behind " + hour, x.at(hour, 1, 3), stays ? 1 : 0);
        }
        is.holds("it goes in the hour behind that", x.at(5, 1, 0) > x.at(4, 1, 0));
    }

    private static void homes() {
        is.sentence(0, "HOME of a REEL: the first HOUR behind which it is UP, having been anything else; NONE.");
        is.due("always up", Answers.told("n10", "", "").home(0, 0), NONE);
        is.due("the soonest of all", Answers.told("n10", "", "a0;b0").home(0, 0), 1);
        is.due("the latest of all", Answers.told("n20", "", "w0;x0").home(0, 0), 23);
        is.due("away behind 23", Answers.told("n20", "", "x0").home(0, 0), NONE);
        is.due("up for long, then away, then up", Answers.told("n10", "", "k0;l0").home(0, 0), 11);
        is.due("home twice", Answers.told("n10", "", "a0;b0;c0;d0").home(0, 0), 1);
        is.due("never up again", Answers.told("w10", "", "a0").home(0, 0), NONE);
        is.due("by the one beside it", Answers.told("w10;n11", "", "a0").home(0, 0), 1);
        StringReels x = Answers.told("n20", "", "a0;b0");
        x.event(0, 1, 0);
        is.due("gone", x.home(0, 0), NONE);
    }

    private static void misses() {
        is.sentence(0, "MISSED: how many FLICKS are.");
        is.due("of none", Answers.told("n90", "", "").missed(), 0);
        is.due("all but one", Answers.told("n90", "", Answers.times(16, "x0")).missed(), 15);
        is.due("of one in each hour", Answers.told("n90", "", "a0;b0;c0;d0;e0").missed(), 0);
    }

    private static void knots() {
        is.sentence(0, "KNOT: the first HOUR in which any become TANGLED; the least REEL; NONE.");
        StringReels x = Answers.told("n40;n91;n42;n93", "", "a0;c0;c1;a2;c2;c3");
        is.due("two pairs in an hour", x.knot(0), 2);
        is.due("two pairs in an hour", x.knot(1), 0);
        is.row("the second pair is one too", x, 3, 3, "00110");
        x = Answers.told("n40;n91;n42;n93", "", "b0;d0;d1;a2;c2;c3");
        is.due("the first hour goes ahead of the least reel", x.knot(0), 2);
        is.due("the first hour goes ahead of the least reel", x.knot(1), 2);
        x = Answers.told("n40;n91", "", "v0;x0;x1");
        is.due("in the last hour", x.knot(0), 23);
        is.due("in the last hour", x.knot(1), 0);
        x = Answers.told("n40;n91", "", "w0");
        is.due("none", x.knot(0), NONE);
        is.due("none", x.knot(1), NONE);
    }

    private static void busiest() {
        is.sentence(0, "BUSY: the HOUR behind which most are not UP, and not GONE, of like ones the least.");
        is.due("all up", Answers.told("n10;n11", "", "").busy(), 0);
        is.due("in hour 0", Answers.told("n10;n11", "", "a0;b0;c1;d1").busy(), 0);
        is.due("in hour 23", Answers.told("n10;n91", "", "a0;b0;w0;x0;x1").busy(), 0);
        is.due("two in hour 23", Answers.told("n30;n91", "", "w0;x1").busy(), 23);
        is.due("two in hours 5 on", Answers.told("n90;n91", "", "a0;f1").busy(), 5);
        StringReels x = Answers.told("n90;n91;n92", "", "a0;b1;d2");
        x.event(0, 3, 0);
        is.due("two in hours 1 and 2 and 3", x.busy(), 1);
        x = Answers.told("n90", "", "c0");
        x.event(0, 3, 0);
        is.due("gone behind 3 on", x.busy(), 2);
        is.due("stuck ones are away", Answers.told("w10;w11", "", "a0;b1").busy(), 1);
    }

    private static void lostOnes() {
        is.sentence(0, "LOST: REELS that are STUCK or GONE behind HOUR 23, as bits.");
        String worn = Answers.times(8, "w10");
        String all = "a0;a1;a2;a3;a4;a5;a6;a7";
        is.due("none of eight", Answers.told(worn, "9", "").lost(), 0);
        is.due("all of eight", Answers.told(worn, "9", all).lost(), 255);
        is.due("stuck in hour 23", Answers.told("w10", "", "x0").lost(), 1);
        is.due("asleep in hour 23", Answers.told("n10", "", "x0").lost(), 0);
        is.due("stuck since hour 23", Answers.told("n10", "", "w0").lost(), 1);
        is.due("down in hour 23", Answers.told("n90", "", "x0").lost(), 0);
        is.due("comes in hour 23", Answers.told("n90", "", "s0;x0").lost(), 0);
        StringReels x = Answers.told("n90;n91;n92", "", "a0;w2");
        x.event(0, 23, 2);
        x.event(0, 23, 1);
        is.due("gone in hour 23, not the one that is up", x.lost(), 0b100);
        is.due("up again in hour 23", Answers.told("w10;n11", "", "w0").lost(), 0);
        is.due("stuck in hour 23, one up beside it", Answers.told("w10;n11", "", "x0").lost(), 1);
    }

    private static void deepest() {
        is.sentence(0, "DEEPEST of a REEL: how DEEP it ever was behind an HOUR.");
        is.due("never deep", Answers.told("n90", "", "").home(0, 1), 0);
        for (int length = 1; length <= 9; length++) {
            is.due("as deep as it is long", Answers.told("n" + length + "0", "", "a0").home(0, 1), length);
        }
        is.due("in hour 0 alone", Answers.told("n10", "", "a0;b0").home(0, 1), 1);
        is.due("in hour 23 alone", Answers.told("n90", "", "x0").home(0, 1), 2);
        StringReels x = Answers.told("n90", "", "a0");
        x.event(0, 1, 0);
        is.due("gone", x.home(0, 1), 2);
    }

    private static void at() {
        is.sentence(12, "How DEEP (what = 0), what it is (1), SPINS (2), TANGLED (3: 1, 0). BAD.");
        StringReels x = Answers.told("n40;n91", "", "a0;c0;c1");
        is.taken("at hour", hour -> x.at(hour, 0, 0), 0, 23);
        is.taken("at reel", reel -> x.at(0, reel, 0), 0, 1);
        is.taken("at what", what -> x.at(0, 0, what), 0, 3);
        is.due("deep", x.at(1, 0, 0), 4);
        is.due("what", x.at(1, 0, 1), 2);
        is.due("spins", x.at(1, 0, 2), 4);
        is.due("tangled", x.at(2, 0, 3), 1);
        is.due("not tangled", x.at(1, 0, 3), 0);
        StringReels all = Answers.told(Answers.times(8, "n10"), "", "");
        is.taken("at reel of eight", reel -> all.at(23, reel, 3), 0, 7);
        is.due("of no reels", new StringReels().at(0, 0, 0), BAD);
    }

    private static void home() {
        is.sentence(13, "HOME (what = 0; NONE), DEEPEST (1). BAD.");
        StringReels x = Answers.told("n30;n91", "", "a0;d0");
        is.taken("home reel", reel -> x.home(reel, 0), 0, 1);
        is.taken("deepest reel", reel -> x.home(reel, 1), 0, 1);
        is.taken("home what", what -> x.home(0, what), 0, 1);
        is.due("home", x.home(0, 0), 4);
        is.due("deepest", x.home(0, 1), 3);
        is.due("none", x.home(1, 0), NONE);
        is.due("deepest 0", x.home(1, 1), 0);
        is.due("of no reels", new StringReels().home(0, 0), BAD);
    }

    private static void missed() {
        is.sentence(14, "MISSED.");
        is.due("of a new object", new StringReels().missed(), 0);
        is.due("two", Answers.told("n90", "", "a0;a0;a0").missed(), 2);
    }

    private static void knot() {
        is.sentence(15, "KNOT: the HOUR (what = 0), the REEL (1); NONE. BAD.");
        StringReels x = Answers.told("n10;n41;n92", "", "a1;c1;c2");
        is.taken("knot what", x::knot, 0, 1);
        is.due("hour", x.knot(0), 2);
        is.due("reel", x.knot(1), 1);
        StringReels none = new StringReels();
        is.taken("knot what of none", none::knot, 0, 1);
        is.due("hour of none", none.knot(0), NONE);
        is.due("reel of none", none.knot(1), NONE);
    }

    private static void busy() {
        is.sentence(16, "BUSY.");
        is.due("of a new object", new StringReels().busy(), 0);
        is.due("hour 23", Answers.told("n10", "", "x0").busy(), 23);
    }

    private static void lost() {
        is.sentence(17, "LOST, as bits.");
        is.due("of a new object", new StringReels().lost(), 0);
        is.due("reel 7", Answers.told(Answers.times(8, "w10"), "", "x7").lost(), 128);
        is.due("reel 0", Answers.told(Answers.times(8, "w10"), "", "x0").lost(), 1);
    }
}
