/** A test for each sentence on a boundary of how an HOUR goes. */
public final class EdgesOfHoursTest {
    private static final int NONE = StringReels.NONE, BAD = StringReels.BAD;
    private static final int UP = 0, DOWN = 1, SLEEPS = 2, COMES = 3, STUCK = 4, GONE = 5;
    private static final String ALWAYS_0 = "000000000000000000000000";
    private static final Answers is = new Answers();

    public static void main(String[] args) {
        hours();
        atFirst();
        eventsFirst();
        cutOfNone();
        cutOfOneUp();
        cutOfAllElse();
        cutOfTangled();
        damps();
        flicksOfNone();
        quick();
        flickOfUpAndAsleep();
        elseNothing();
        byNumbers();
        down();
        spins();
        comes();
        sleepsSince();
        stuckAtNone();
        stuckSince();
        stuckByBeside();
        stuckAtTheEnds();
        pairs();
        pairsAtTheEnds();
        notTwice();
        twoHours();
        allTheSame();
        is.end();
    }

    private static void hours() {
        is.sentence(0, "HOURS are 0 to 23.");
        StringReels x = Answers.told("n20;n21", "", "a0;x1");
        is.row("in the first", x, 0, 0, "222");
        is.row("in the last", x, 1, 0, "000000000000000000000002");
        x.event(0, 0, 0);
        is.due("an event of the first", x.at(0, 0, 1), SLEEPS);
        x = Answers.told("n90", "", "w0");
        x.event(0, 23, 0);
        is.due("ahead of an event of the last", x.at(22, 0, 1), DOWN);
        is.due("an event of the last", x.at(23, 0, 1), GONE);
    }

    private static void atFirst() {
        is.sentence(0, "A REEL is UP (0), goes DOWN (1), SLEEPS (2), COMES (3), is STUCK (4) or GONE (5); UP at first, 0 DEEP.");
        StringReels x = Answers.told(Answers.times(8, "n90"), "", "");
        for (int reel = 0; reel < 8; reel++) {
            for (int what = 0; what <= 3; what++) {
                is.row("let be", x, reel, what, ALWAYS_0);
            }
        }
        x = Answers.told("n30;w31", "", "a0;d0;a1");
        is.row("up, down, asleep, comes", x, 0, 1, "122300");
        is.row("down, asleep, stuck, up", x, 1, 1, "1244440");
        x.event(0, 4, 1);
        is.row("gone", x, 1, 1, "1244555555");
    }

    private static void eventsFirst() {
        is.sentence(0, "In an HOUR first its EVENTS are done, as told");
        StringReels x = Answers.told("n20;n91", "", "a0;b0;b1");
        x.event(0, 1, 0);
        x.event(0, 1, 1);
        is.row("cut ahead of the flick that would bring it", x, 0, 1, "2555");
        is.row("not cut by one of the hour in which it goes down", x, 1, 1, "0111");
        x.event(0, 2, 1);
        is.row("cut ahead of going", x, 1, 0, "0222");
        x = Answers.told("n90", "", "a0");
        for (int hour : new int[] {7, 5, 6}) {
            x.event(1, hour, 0);
        }
        is.row("each in its own hour", x, 0, 2, "000096300");
    }

    private static void cutOfNone() {
        is.sentence(0, "by a CUT that REEL (if it is there)");
        StringReels x = Answers.told("n90;n91", "", "a0;a1");
        for (int reel = 2; reel < 8; reel++) {
            x.event(0, 1, reel);
        }
        is.row("cuts of none", x, 0, 1, "11112");
        is.row("cuts of none", x, 1, 1, "11112");
        is.due("lost", x.lost(), 0b11);
        Answers.type(x, 0, ";n92");
        is.due("one that is there now is up then", x.at(1, 2, 1), UP);
        Answers.type(x, 2, ";a2");
        is.row("one that is there now", x, 2, 1, "1555");
    }

    private static void cutOfOneUp() {
        is.sentence(0, "unless it is UP, is GONE");
        StringReels x = Answers.told("n30", "", "b0;e0");
        x.event(0, 0, 0);
        x.event(0, 1, 0);
        x.event(0, 6, 0);
        is.row("never down", x, 0, 1, "0122300");
        is.row("up behind hour 5", x, 0, 1, "01223000");
        x.back();
        x.event(0, 5, 0);
        is.row("still comes in hour 5", x, 0, 1, "0122355");
    }

    private static void cutOfAllElse() {
        is.sentence(0, "is GONE (as DEEP as it was, TANGLED no more)");
        cut("n90", "b0", 3, "024444444444444444444444", "011555555555555555555555");
        cut("n50", "b0", 4, "024555555555555555555555", "011255555555555555555555");
        cut("n50", "b0;f0", 6, "024553333333333333333333", "011223555555555555555555");
        cut("n50", "b0", 12, "024555555555555555555555", "011222224444555555555555");
    }

    private static void cut(String reel, String flicks, int hour, String deep, String what) {
        StringReels x = Answers.told(reel, "", flicks);
        x.event(0, hour, 0);
        is.row("cut in " + hour, x, 0, 0, deep);
        is.row("cut in " + hour, x, 0, 1, what);
        x.event(0, hour + 1, 0);
        x.event(1, hour + 1, 0);
        is.row("cut again, and damped", x, 0, 0, deep);
        is.row("cut again, and damped", x, 0, 1, what);
    }

    private static void cutOfTangled() {
        is.sentence(0, "TANGLED no more");
        for (int reel = 0; reel < 2; reel++) {
            StringReels x = Answers.told("n40;n91", "", "a0;c0;c1");
            x.event(0, 3, reel);
            is.row("the cut one", x, reel, 3, "001000");
            is.row("the other one", x, 1 - reel, 3, "001100");
            is.row("the cut one", x, reel, 0, reel == 0 ? "24222222" : "00222222");
            is.row("the other one goes in hour 5", x, 1 - reel, 0, reel == 0 ? "0022246" : "2422200");
        }
        StringReels x = Answers.told("n40;n91", "", "a0;c0;c1");
        x.event(0, 2, 0);
        is.due("cut ahead of the tangle", x.knot(0), NONE);
    }

    private static void damps() {
        is.sentence(0, "by a DAMP each that SLEEPS SPINS for 2 HOURS less, 0 at least");
        StringReels x = Answers.told("n90;n91;w92;d93;n54", "", "a0;a1;c2;d3;a4;g4");
        x.event(1, 7, 0);
        is.row("from 7 to 4", x, 0, 2, "00009874321");
        is.row("each", x, 1, 2, "00009874321");
        is.row("from 4 to 1", x, 2, 2, "00000041000");
        is.row("damped while it goes down", x, 3, 2, "00000001000");
        is.row("damped while it comes", x, 4, 1, "11222233000");
        for (int times = 1; times <= 6; times++) {
            x = Answers.told("n50", "", "a0");
            for (int i = 0; i < times; i++) {
                x.event(1, 3, 0);
            }
            int left = Math.max(0, 5 - 2 * times - 1);
            is.due(times + " damps of 5", x.at(3, 0, 2), left);
            is.due(times + " damps of 5", x.at(3, 0, 1), left == 0 ? STUCK : SLEEPS);
        }
        x = Answers.told("n50", "", "a0;d0");
        for (int i = 0; i < 3; i++) {
            x.event(1, 3, 0);
        }
        is.row("at 0 it still sleeps, and comes by the flick of that hour", x, 0, 1, "112330");
    }

    private static void flicksOfNone() {
        is.sentence(0, "Then its FLICKS, as told, of REELS that are there");
        StringReels x = Answers.told("n10;n20", "1", "a7;a2;a1;a0;a1");
        is.due("of reels 2 and 7 none is made or missed", x.missed(), 2);
        is.row("the first told of those that are there", x, 1, 1, "22");
        is.row("the second told", x, 0, 1, "00");
        Answers.type(x, 0, ";n90");
        is.due("of reel 2, which is there now", x.missed(), 3);
        is.row("of reel 2, which is there now", x, 2, 1, "111");
        is.row("now the second told", x, 1, 1, "000");
        x.wipe(0);
        is.due("of no reels", x.missed(), 0);
    }

    private static void quick() {
        is.sentence(0, "the HAND of it makes it, unless it made as many in that HOUR as it is QUICK (then it is MISSED)");
        for (int quick = 1; quick <= 9; quick++) {
            for (int made = quick; made <= quick + 2; made++) {
                StringReels x = Answers.told("n97", "1111111" + quick, Answers.times(made, "f0"));
                is.due(made + " flicks by a hand of " + quick, x.missed(), made - quick);
            }
        }
        StringReels x = Answers.told("n90;n90", "", "a0;a1;b1;b0;c0;c1");
        is.due("in each hour anew", x.missed(), 3);
        is.row("made in hour 0", x, 0, 0, "24689");
        is.row("made in hour 1", x, 1, 0, "02468");
        x = Answers.told("n90;n91;n97", "", "a0;a1;a2");
        is.due("each hand by itself", x.missed(), 0);
        x = Answers.told("n97", "", "x0;x0");
        is.due("in the last hour", x.missed(), 1);
        x = Answers.told("n10", "", Answers.times(16, "a0"));
        is.due("sixteen in an hour", x.missed(), 15);
    }

    private static void flickOfUpAndAsleep() {
        is.sentence(0, "one that is UP goes DOWN, one that SLEEPS COMES");
        StringReels x = Answers.told("n20", "", "a0;b0;c0;d0");
        is.row("down, up, down, up", x, 0, 1, "2020000");
        x = Answers.told("n20", "", "a0;c0");
        is.row("in the last hour in which it spins", x, 0, 1, "2200");
        x = Answers.told("n20", "", "a0;d0");
        is.row("an hour too late", x, 0, 1, "22444");
        x = Answers.told("n20", "9", "b0;b0;c0;c0");
        is.row("of two in an hour the second is for nothing", x, 0, 1, "0200");
        is.due("but made", x.missed(), 0);
    }

    private static void elseNothing() {
        is.sentence(0, "else nothing is");
        StringReels x = Answers.told("n90;n20", "", "a0;b0;b1");
        is.row("of one that goes down", x, 0, 0, "24689");
        is.due("made: another one is missed", x.missed(), 1);
        x = Answers.told("n60;n20", "", "a0;d0;e0;e1");
        is.row("of one that comes", x, 0, 0, "246420");
        is.due("made: another one is missed", x.missed(), 1);
        x = Answers.told("w10;n20", "", "a0;a1;b1;b0");
        is.due("missed of one in an hour", x.missed(), 2);
        x = Answers.told("w10", "", "a0;b0");
        is.row("of one that is stuck", x, 0, 1, "4444");
        x = Answers.told("n90;n20", "", "a0;c0;c1");
        x.event(0, 2, 0);
        is.row("of one that is gone", x, 0, 1, "11555");
        is.due("made: another one is missed", x.missed(), 1);
    }

    private static void byNumbers() {
        is.sentence(0, "Then REELS go, by numbers, but TANGLED ones.");
        // Reel 0 comes up in hour 1, in which reel 1 sees it up, and then reel 2 sees reel 1.
        StringReels x = Answers.told("n10;w11;w12", "", "a0;a1;a2;b0");
        is.row("up in hour 1", x, 0, 1, "200");
        is.row("lifted in hour 1", x, 1, 1, "400");
        is.row("lifted in hour 1", x, 2, 1, "400");
        x = Answers.told("w12;w11;n10", "", "a0;a1;a2;b2");
        is.row("up in hour 1", x, 2, 1, "2000");
        is.row("lifted in hour 2", x, 1, 1, "4400");
        is.row("lifted in hour 3", x, 0, 1, "4440");
    }

    private static void down() {
        is.sentence(0, "One that goes DOWN is DEEPer by 2, as much as it is LONG at most; if it is that, it SLEEPS, and SPINS");
        for (int length = 1; length <= 9; length++) {
            StringReels x = Answers.told("n" + length + "0", "", "a0");
            int hours = (length + 1) / 2;
            for (int hour = 0; hour < hours; hour++) {
                boolean there = hour == hours - 1;
                is.due(length + " long: deep " + hour, x.at(hour, 0, 0), there ? length : 2 * hour + 2);
                is.due(length + " long: what " + hour, x.at(hour, 0, 1), there ? SLEEPS : DOWN);
                is.due(length + " long: spins " + hour, x.at(hour, 0, 2), there ? length : 0);
            }
            is.due(length + " long: no deeper", x.at(23, 0, 0), length);
        }
    }

    private static void spins() {
        is.sentence(0, "a new one for as many HOURS as it is LONG, a worn one for half of that (cut), a damp one for 1");
        for (int length = 1; length <= 9; length++) {
            asleep('n', length, length);
            asleep('w', length, length / 2);
            asleep('d', length, 1);
        }
    }

    private static void asleep(char sort, int length, int spins) {
        StringReels x = Answers.told(sort + "" + length + "0", "", "a0");
        int first = (length + 1) / 2 - 1;
        for (int hour = first; hour < 24; hour++) {
            int left = Math.max(0, spins - (hour - first));
            is.due(sort + " " + length + " spins behind " + hour, x.at(hour, 0, 2), left);
            is.due(sort + " " + length + " is behind " + hour, x.at(hour, 0, 1), left == 0 ? STUCK : SLEEPS);
            is.due(sort + " " + length + " is deep behind " + hour, x.at(hour, 0, 0), length);
        }
    }

    private static void comes() {
        is.sentence(0, "One that COMES is less DEEP by 2, 0 at least; at 0 it is UP.");
        for (int length = 1; length <= 9; length++) {
            int asleep = (length + 1) / 2 - 1;
            StringReels x = Answers.told("n" + length + "0", "", "a0;" + (char) ('a' + asleep + 1) + "0");
            for (int hour = asleep + 1; hour < 24; hour++) {
                int deep = Math.max(0, length - 2 * (hour - asleep));
                is.due(length + " long: deep " + hour, x.at(hour, 0, 0), deep);
                is.due(length + " long: what " + hour, x.at(hour, 0, 1), deep == 0 ? UP : COMES);
            }
        }
    }

    private static void sleepsSince() {
        is.sentence(0, "One that SLEEPS (since an HOUR ahead) SPINS for 1 less, 0 at least.");
        StringReels x = Answers.told("n30", "", "a0");
        is.row("3 behind the hour in which it went to sleep", x, 0, 2, "0321000");
        x = Answers.told("d10", "", "a0");
        is.row("1 behind the hour in which it went to sleep", x, 0, 2, "1000");
        x.event(1, 1, 0);
        is.row("damped below", x, 0, 2, "1000");
        is.row("damped below", x, 0, 1, "2444");
    }

    private static void stuckAtNone() {
        is.sentence(0, "One that SLEEPS and SPINS for 0 is STUCK.");
        StringReels x = Answers.told("w10;w31;d22;n13", "", "a0;a1;a2;a3");
        is.row("a worn one, 1 long, sleeps never", x, 0, 1, "44");
        is.row("a worn one, 3 long, for 1", x, 1, 1, "124");
        is.row("a damp one for 1", x, 2, 1, "24");
        is.row("a new one, 1 long, for 1", x, 3, 1, "24");
        is.row("spins", x, 1, 2, "0100");
    }

    private static void stuckSince() {
        is.sentence(0, "One that is STUCK (since an HOUR ahead) is less DEEP by 1");
        StringReels x = Answers.told("n10;w11;n12", "", "a1");
        is.row("stuck at once, but lifted in the next hour", x, 1, 0, "1000");
        x = Answers.told("n10;d31;n12", "", "a1");
        is.row("stuck in hour 2, lifted in hour 3", x, 1, 0, "233100");
        is.row("stuck in hour 2, lifted in hour 3", x, 1, 1, "124400");
    }

    private static void stuckByBeside() {
        is.sentence(0, "for each REEL beside it that is UP, 0 at least; at 0 it is UP.");
        StringReels x = Answers.told("n10;w91;n12", "", "a1");
        is.row("by two each hour, 1 below 0", x, 1, 0, "24689999975310000000");
        is.row("by two each hour, 1 below 0", x, 1, 1, "11112222444440000000");
        x = Answers.told("n90;w31;n12", "", "a0;a1");
        is.row("one of two is up", x, 1, 0, "23321000");
        x = Answers.told("n90;w31;n92", "", "a0;a1;a2");
        is.row("none of two is up", x, 1, 0, "2333333333333333");
        x = Answers.told("n10;n91;w12;n93;n14", "", "a1;a2;a3");
        is.row("those two away do not help", x, 2, 0, "1111111111111111");
        x = Answers.told("w11;n20", "", "a0;a1;b1");
        is.row("one that comes up is seen up in the hour behind", x, 0, 1, "4400");
        x = Answers.told("n90;w11;n92", "", "a0;a1;a2");
        x.event(0, 2, 0);
        x.event(0, 2, 2);
        is.row("gone ones do not help", x, 1, 1, "444444444444444444444444");
    }

    private static void stuckAtTheEnds() {
        is.sentence(0, "8 at most (0 on, side by side)");
        // Reel 7 is up all day, reel 1 not before hour 22.
        StringReels x = Answers.told("w10;n91;n12;n12;n12;n12;n12;n12", "", "a0;a1");
        is.row("reel 7 is not beside reel 0", x, 0, 1, "444444444444444444444440");
        is.row("the one that is", x, 1, 0, "246899999999998765432100");
        x = Answers.told("n12;n12;n12;n12;n12;n12;n91;w10", "", "a7;a6");
        is.row("reel 0 is not beside reel 7", x, 7, 1, "444444444444444444444400");
        x = Answers.told("n12;w10", "", "a1");
        is.row("the last of two has one beside it", x, 1, 0, "1000");
        x = Answers.told("w40", "", "a0");
        is.row("one alone has none", x, 0, 0, "244444444444444444444444");
    }

    private static void pairs() {
        is.sentence(0, "each two REELS beside each other (by numbers, the pair of less ones first) that are as DEEP, of which one goes DOWN, and the other one COMES");
        StringReels x = Answers.told("n40;n91", "", "a0;c0;c1");
        is.due("the less one comes", x.knot(0), 2);
        x = Answers.told("n90;n41", "", "a1;c1;c0");
        is.due("the less one goes down", x.knot(0), 2);
        x = Answers.told("n40;n91", "", "a0;c0;b1");
        is.due("as deep by 2 more is not", x.knot(0), NONE);
        x = Answers.told("n50;n91", "", "a0;d0;d1");
        is.due("as deep by 1 less is not", x.knot(0), NONE);
        x = Answers.told("n40;n21", "", "a0;c0;c1");
        is.due("one sleeps", x.knot(0), NONE);
        x = Answers.told("n40;n41", "", "a0;a1;c0;c1");
        is.due("both go the same way", x.knot(0), NONE);
        x = Answers.told("n20;n91", "", "a0;b0;b1");
        is.due("one is up", x.knot(0), NONE);
        x = Answers.told("n90;n41;n92", "", "a1;c1;c0;c2");
        is.row("the pair of less ones first", x, 0, 3, "00110");
        is.row("the pair of less ones first", x, 1, 3, "00110");
        is.row("the third goes on", x, 2, 3, "00000");
        x = Answers.told("n40;n11;n92", "", "a0;c0;c2");
        is.due("two apart", x.knot(0), NONE);
    }

    private static void pairsAtTheEnds() {
        is.sentence(0, "8 at most (0 on, side by side)");
        String six = Answers.times(6, "n11");
        StringReels x = Answers.told("n40;" + six + ";n97", "", "a0;c0;c7");
        is.due("reels 0 and 7 are not beside each other", x.knot(0), NONE);
        x = Answers.told(six + ";n40;n97", "", "a6;c6;c7");
        is.due("reels 6 and 7 are", x.knot(1), 6);
        x = Answers.told("n40;n97;" + six, "", "a0;c0;c1");
        is.due("reels 0 and 1 are", x.knot(1), 0);
    }

    private static void notTwice() {
        is.sentence(0, "and that are not TANGLED, become TANGLED");
        StringReels x = Answers.told("n90;n41;n92", "", "a1;c1;c0;d2");
        is.row("reel 2 comes by in hour 3", x, 2, 0, "00024689");
        is.row("and is not tangled with a tangled one", x, 2, 3, "00000000");
        is.row("which is free as it was to be", x, 1, 0, "24222000");
        x = Answers.told("n92;n41;n90", "", "a1;c1;c2;d0");
        is.row("reel 0 comes by in hour 3", x, 0, 0, "00024689");
        is.row("and is not tangled with a tangled one", x, 0, 3, "00000000");
        x = Answers.told("n90;n41;n92", "", "a1;c1;c0;e2");
        is.row("reel 2 comes by in hour 4, the last in which they do not go", x, 2, 3, "00000000");
        // Reel 1 is held at 2, goes on to 4 in hour 5, and meets the one on its other side there.
        x = Answers.told("n40;n91;n62", "", "a0;c0;c1;a2;f2");
        is.row("tangled again in the first hour in which it goes", x, 1, 0, "002224446");
        is.row("tangled again in the first hour in which it goes", x, 1, 3, "001101100");
        x = Answers.told("n62;n91;n40", "", "a2;c2;c1;a0;f0");
        is.row("tangled again, on the other side", x, 1, 0, "002224446");
        is.row("tangled again, on the other side", x, 1, 3, "001101100");
        x = Answers.told("n40;n91", "", "a0;c0;c1");
        is.row("they are not tangled anew as they are let go", x, 0, 3, "00110000");
        is.row("they are not tangled anew as they are let go", x, 1, 3, "00110000");
    }

    private static void twoHours() {
        is.sentence(0, "for the two HOURS behind that they do not go");
        StringReels x = Answers.told("n40;n91", "", "a0;c0;c1");
        is.row("held in hours 3 and 4", x, 0, 0, "24222000");
        is.row("held in hours 3 and 4", x, 1, 0, "00222468");
        is.row("what they are stays", x, 0, 1, "12333000");
        is.row("what they are stays", x, 1, 1, "00111111");
        for (int hour = 21; hour <= 23; hour++) {
            char first = (char) ('a' + hour - 2), then = (char) ('a' + hour);
            x = Answers.told("n40;n91", "", first + "0;" + then + "0;" + then + "1");
            is.due("tangled in " + hour, x.knot(0), hour);
            is.due("tangled in " + hour + ": behind it", x.at(hour, 0, 3), 1);
            is.due("tangled in " + hour + ": behind 23", x.at(23, 0, 3), hour == 21 ? 0 : 1);
            is.due("tangled in " + hour + ": deep behind 23", x.at(23, 1, 0), 2);
        }
    }

    private static void allTheSame() {
        is.sentence(0, "(FLICKS, EVENTS are done all the same)");
        StringReels x = Answers.told("n40;n91;n90;n91", "", "a0;c0;c1;d0;d2;e1;e3");
        is.due("the hands of tangled ones made flicks", x.missed(), 2);
        is.row("so that another one is missed", x, 2, 1, "00000");
        is.row("so that another one is missed", x, 3, 1, "00000");
        is.row("which do nothing", x, 0, 1, "123330");
        is.row("which do nothing", x, 1, 1, "001111");
        x = Answers.told("n40;n91", "", "a0;c0;c1");
        x.event(0, 4, 1);
        is.row("a cut in the last hour of the two", x, 1, 1, "0011555");
        is.row("a cut in the last hour of the two", x, 1, 0, "0022222");
    }
}
