/** Promises 12 to 17: what is behind each HOUR. */
public final class HoursTest {
    private static final Answers is = new Answers();

    public static void main(String[] args) {
        aNewReel();
        sortsAndLengths();
        stuckOnes();
        cuts();
        damps();
        quickness();
        tangles();
        tangledOnes();
        homes();
        summaries();
        askedAhead();
        refusals();
        is.end();
    }

    /** What at() tells of a REEL from HOUR 0 on; a letter of want for each HOUR. */
    private static void row(String name, StringReels x, int reel, int what, String want) {
        for (int hour = 0; hour < want.length(); hour++) {
            is.due(name + ": at " + hour + " " + reel + " " + what, x.at(hour, reel, what), want.charAt(hour) - '0');
        }
    }

    private static void aNewReel() {
        StringReels x = Answers.told("n50", "", "b0;e0");
        row("new", x, 0, 0, "024531000000000000000000");
        row("new", x, 0, 1, "011233000000000000000000");
        row("new", x, 0, 2, "000500000000000000000000");
        x = Answers.told("n50", "", "b0");
        row("new, let sleep", x, 0, 0, "024555555555555555555555");
        row("new, let sleep", x, 0, 1, "011222224444444444444444");
        row("new, let sleep", x, 0, 2, "000543210000000000000000");
        row("new, let sleep", x, 0, 3, "000000000000000000000000");
    }

    private static void sortsAndLengths() {
        StringReels x = Answers.told("n10", "", "a0;b0");
        row("new 1", x, 0, 0, "1000");
        row("new 1", x, 0, 1, "2000");
        row("new 1", x, 0, 2, "1000");
        x = Answers.told("w50", "", "a0");
        row("worn 5", x, 0, 1, "1122444");
        row("worn 5", x, 0, 2, "0021000");
        x = Answers.told("w10", "", "a0");
        row("worn 1 is stuck at once", x, 0, 1, "4444");
        row("worn 1 is stuck at once", x, 0, 0, "1111");
        x = Answers.told("d90", "", "a0");
        row("damp 9", x, 0, 0, "246899999");
        row("damp 9", x, 0, 1, "111124444");
        row("damp 9", x, 0, 2, "000010000");
        x = Answers.told("n20", "", "x0");
        is.due("the last hour", x.at(23, 0, 1), 2);
        is.due("the hour ahead of it", x.at(22, 0, 1), 0);
    }

    private static void stuckOnes() {
        StringReels x = Answers.told("n10;w41;n10", "", "a1");
        row("two up beside", x, 1, 1, "1224400");
        row("two up beside", x, 1, 0, "2444200");
        x = Answers.told("w41;n10", "", "a0");
        row("one up beside", x, 0, 0, "2444321000");
        row("one up beside", x, 0, 1, "1224444000");
        x = Answers.told("n10;w11;w12", "", "a1;a2");
        row("by numbers, upwards", x, 1, 1, "4000");
        row("by numbers, upwards", x, 2, 1, "4000");
        x = Answers.told("w10;w11;n12", "", "a0;a1");
        row("by numbers, downwards", x, 0, 1, "4400");
        row("by numbers, downwards", x, 1, 1, "4000");
        x = Answers.told("w11;n12", "", "a0;b1");
        row("the one beside goes down in that hour", x, 0, 1, "4444");
        x = Answers.told("w10", "", "a0;c0");
        row("a flick of a stuck one is nothing", x, 0, 1, "44444");
        x = Answers.told("w10;n11", "", "a0");
        x.event(0, 0, 1);
        row("one beside that is up is not cut", x, 0, 1, "4000");
    }

    private static void cuts() {
        StringReels x = Answers.told("n90;n91", "", "a0;d0");
        x.event(0, 0, 0);
        row("a cut of one that is up is nothing", x, 0, 1, "111122");
        x.event(0, 2, 0);
        row("cut", x, 0, 1, "115555555555555555555555");
        row("cut", x, 0, 0, "244444444444444444444444");
        x.event(0, 3, 7);
        x.event(0, 3, 1);
        row("a cut of none, of one that is up", x, 1, 1, "000000");
        x = Answers.told("n20", "", "a0;c0");
        x.event(0, 1, 0);
        row("cut asleep", x, 0, 1, "25555");
        row("cut asleep", x, 0, 2, "20000");
        row("cut asleep", x, 0, 0, "22222");
        x = Answers.told("w10;n11", "", "a0");
        x.event(0, 1, 0);
        row("cut stuck, ahead of going", x, 0, 1, "4555");
        x = Answers.told("n20", "", "a0;b0");
        x.event(0, 1, 0);
        row("cut ahead of the flick of that hour", x, 0, 1, "2555");
    }

    private static void damps() {
        StringReels x = Answers.told("n60;n61", "", "a0;a1");
        x.event(1, 3, 0);
        row("damp", x, 0, 2, "0063210");
        row("damp, of all", x, 1, 2, "0063210");
        x.event(1, 3, 5);
        row("damp twice in an hour", x, 0, 2, "0061000");
        row("damp twice in an hour", x, 0, 1, "1122444");
        x.event(1, 3, 7);
        row("damp thrice, 0 at least", x, 0, 2, "0060000");
        row("damp thrice, 0 at least", x, 0, 1, "1124444");
        x = Answers.told("n20", "", "a0;b0");
        x.event(1, 1, 0);
        row("damped to 0, the flick still brings it", x, 0, 1, "2000");
        x = Answers.told("n20", "", "a0");
        x.event(1, 0, 0);
        row("damp ahead of sleep is nothing", x, 0, 2, "2100");
    }

    private static void quickness() {
        StringReels x = Answers.told("n10;n10;n10", "2", "a0;a1;a2");
        is.due("one missed of a hand of 2", x.missed(), 1);
        is.due("the third is", x.at(0, 2, 1), 0);
        x = Answers.told("n10;n11", "", "a0;a1");
        is.due("none missed by two hands", x.missed(), 0);
        x = Answers.told("n90", "", "a0;a0;b0;b0");
        is.due("missed each hour", x.missed(), 2);
        x = Answers.told("n20;n20", "2", "b1;a0;b0;b0");
        is.due("as told, not by hours", x.missed(), 1);
        row("as told, not by hours", x, 1, 1, "0224");
        x = Answers.told("n20;n20", "", "a1;a0");
        row("the first told is made", x, 1, 1, "22");
        row("the second told is missed", x, 0, 1, "00");
        x = Answers.told("n90;n20", "", "a0;b0;b1");
        is.due("a flick that does nothing is made too", x.missed(), 1);
        x = Answers.told("n10", "", "a7;a0;a1");
        is.due("flicks of none are not missed", x.missed(), 0);
        is.due("nor made", x.at(0, 0, 1), 2);
        x = Answers.told("n20", "9", "a0;a0;b0;b0");
        row("two flicks in an hour", x, 0, 1, "2000");
    }

    private static void tangles() {
        // Reel 0 comes up through 2 in hour 2, reel 1 goes down to 2 in it.
        StringReels x = Answers.told("n40;n91", "", "a0;c0;c1");
        row("tangled", x, 0, 0, "242220000");
        row("tangled", x, 0, 1, "123330000");
        row("tangled", x, 0, 3, "001100000");
        row("tangled", x, 1, 0, "002224689");
        row("tangled", x, 1, 1, "001111112");
        row("tangled", x, 1, 3, "001100000");
        is.due("knot hour", x.knot(0), 2);
        is.due("knot reel", x.knot(1), 0);
        is.due("home", x.home(0, 0), 5);
        x = Answers.told("n11;n91;n40", "", "a2;c2;c1");
        is.due("knot of the pair behind", x.knot(1), 1);
        is.due("knot hour of it", x.knot(0), 2);
        x = Answers.told("n91;n40;n92", "", "a1;c0;c1;c2");
        row("the pair of less ones first", x, 0, 3, "00110");
        row("the pair of less ones first", x, 1, 3, "00110");
        row("the third goes on", x, 2, 3, "00000");
        row("the third goes on", x, 2, 0, "00246");
        x = Answers.told("n90;n91", "", "a0;a1");
        is.due("both down", x.knot(0), StringReels.NONE);
        x = Answers.told("n40;n11;n92", "", "a0;c0;c2");
        is.due("not beside each other", x.knot(0), StringReels.NONE);
        x = Answers.told("n50;n91", "", "a0;d0;d1");
        is.due("not as deep", x.knot(1), StringReels.NONE);
        x = Answers.told("n40;n21", "", "a0;c0;c1");
        is.due("one sleeps", x.knot(0), StringReels.NONE);
        x = Answers.told("n40;n91;n42;n93", "", "a2;c2;c3;d0;f0;f1");
        is.due("knot is the first", x.knot(0), 2);
        is.due("knot is the first", x.knot(1), 2);
        row("the later one", x, 0, 3, "000001100");
    }

    private static void tangledOnes() {
        StringReels x = Answers.told("n40;n91", "", "a0;c0;c1");
        x.event(0, 3, 0);
        row("cut tangled", x, 0, 1, "123555555");
        row("cut tangled", x, 0, 0, "242222222");
        row("cut tangled", x, 0, 3, "001000000");
        row("the other stays so", x, 1, 3, "001100000");
        row("the other stays so", x, 1, 0, "002224689");
        x = Answers.told("n40;n91;n21", "", "a0;c0;c1;d1;d2");
        is.due("a flick of a tangled one is made", x.missed(), 1);
        row("and does nothing", x, 1, 1, "001111112");
        // Reel 1 is held at 2, goes on to 4 in hour 5, and meets the one on its other side there.
        x = Answers.told("n40;n91;n62", "", "a0;c0;c1;a2;f2");
        row("tangled again as soon as it goes", x, 1, 0, "002224446");
        row("tangled again as soon as it goes", x, 1, 3, "001101100");
        row("with another one", x, 2, 3, "000001100");
        x = Answers.told("n62;n91;n40", "", "a2;c2;c1;a0;f0");
        row("tangled again, on the other side", x, 1, 0, "002224446");
        row("tangled again, on the other side", x, 1, 3, "001101100");
        row("with another one", x, 0, 3, "000001100");
        x = Answers.told("n40;n91", "", "a0;c0;c1;e0;g0");
        row("up in hour 5, down again in hour 6", x, 0, 0, "242220244");
    }

    private static void homes() {
        StringReels x = Answers.told("n40;n21", "2", "a0;c0;e0;g0");
        is.due("home", x.home(0, 0), 3);
        is.due("home is the first", x.at(4, 0, 1), 1);
        is.due("never away", x.home(1, 0), StringReels.NONE);
        is.due("never deep", x.home(1, 1), 0);
        is.due("deepest", x.home(0, 1), 4);
        x = Answers.told("w10;n11", "", "a0");
        is.due("home by the neighbours", x.home(0, 0), 1);
        x = Answers.told("n20", "", "w0;x0");
        is.due("home in the last hour", x.home(0, 0), 23);
        is.due("deepest in the last hours", x.home(0, 1), 2);
        x = Answers.told("n20", "", "x0");
        is.due("deepest in the last hour", x.home(0, 1), 2);
        x = Answers.told("n10", "", "a0;b0");
        is.due("deepest in hour 0", x.home(0, 1), 1);
        x = Answers.told("n90", "", "a0");
        x.event(0, 3, 0);
        is.due("gone is not home", x.home(0, 0), StringReels.NONE);
        is.due("deepest of a gone one", x.home(0, 1), 6);
    }

    private static void summaries() {
        StringReels x = Answers.told("n90;n91;n92", "", "b0;c1;d2");
        is.due("busy is the least of like ones", x.busy(), 3);
        x.event(0, 4, 1);
        is.due("busy still", x.busy(), 3);
        x.event(0, 3, 0);
        is.due("gone is not busy", x.busy(), 2);
        is.due("lost: gone, gone, stuck", x.lost(), 7);
        x = Answers.told("n90;w10;n20;n92", "", "a0;x2");
        is.due("busy at once", x.busy(), 0);
        is.due("lost: stuck alone", x.lost(), 0);
        x = Answers.told("n10;n21", "", "a0;b0;b1;c1;x0;x1");
        is.due("busy in the last hour", x.busy(), 23);
        x = Answers.told("n10", "", "b0;c0");
        is.due("busy in hour 1", x.busy(), 1);
        x = Answers.told("w10;w10", "9", "a0;a1");
        is.due("stuck ones hold each other", x.lost(), 3);
        x.event(0, 23, 1);
        is.due("lost in the last hour", x.lost(), 3);
        x = Answers.told("n10;n91;n12", "", "u1");
        is.due("one that sleeps is not lost", x.lost(), 0);
        x.event(0, 22, 1);
        is.due("one that is gone is", x.lost(), 2);
        is.due("cuts undone", x.back(), 0);
        is.due("cuts undone", x.lost(), 0);
    }

    /** What was asked of an earlier day does not come into a later one. */
    private static void askedAhead() {
        StringReels x = Answers.told("n90;n91", "", "o0");
        is.due("asleep in the last hours", x.at(23, 0, 2), 4);
        is.due("missed", x.missed(), 0);
        Answers.type(x, 2, ";o0;o1");
        is.due("flicks more", x.missed(), 1);
        is.due("flicks more", x.at(23, 1, 2), 4);
        x.wipe(2);
        is.due("no flicks", x.missed(), 0);
        row("no flicks", x, 0, 1, "000000000000000000000000");
        row("no flicks", x, 0, 2, "000000000000000000000000");
        x = Answers.told("n40;n91", "", "t0;v0;v1");
        is.due("tangled in hour 21", x.knot(0), 21);
        is.due("tangled in hour 21", x.at(22, 0, 3), 1);
        x.wipe(2);
        Answers.type(x, 2, "a0");
        row("free in an earlier hour", x, 0, 0, "244444");
        row("free in an earlier hour", x, 0, 3, "000000");
        is.due("no knot", x.knot(0), StringReels.NONE);
        x.event(0, 1, 0);
        row("a cut more", x, 0, 0, "222222");
        x.back();
        row("a cut less", x, 0, 0, "244444");
        x.undo(0);
        is.due("a fault", x.at(0, 0, 0), StringReels.BAD);
        Answers.type(x, 0, "0");
        row("well again", x, 0, 0, "244444");
    }

    private static void refusals() {
        StringReels x = Answers.told("n10;n10", "", "");
        for (int what : new int[] {-1, 4, Integer.MAX_VALUE}) {
            is.due("at what " + what, x.at(0, 0, what), StringReels.BAD);
        }
        for (int n : new int[] {-1, 2, Integer.MIN_VALUE}) {
            is.due("home what", x.home(0, n), StringReels.BAD);
            is.due("home reel", x.home(n, 0), StringReels.BAD);
            is.due("at reel", x.at(0, n, 0), StringReels.BAD);
            is.due("knot what", x.knot(n), StringReels.BAD);
        }
        is.due("at hour -1", x.at(-1, 0, 0), StringReels.BAD);
        is.due("at hour 24", x.at(24, 0, 0), StringReels.BAD);
        x = new StringReels();
        is.due("no reels: at", x.at(0, 0, 0), StringReels.BAD);
        is.due("no reels: busy", x.busy(), 0);
        is.due("no reels: lost", x.lost(), 0);
        is.due("no reels: knot", x.knot(1), StringReels.NONE);
    }
}
