/** A test for each sentence on a boundary of SOON, GIVE, SPOOL, SPARE, and of promises 18 to 21. */
public final class EdgesOfPlansTest {
    private static final int NONE = StringReels.NONE, BAD = StringReels.BAD;
    private static final Answers is = new Answers();

    public static void main(String[] args) {
        behindAllOthers();
        whateverRoom();
        soonest();
        soonByNone();
        giveInPlace();
        giveFewest();
        spoolInPlace();
        spoolFewest();
        spareFewest();
        spareLeastRow();
        spareByNone();
        soon();
        give();
        spool();
        spare();
        is.end();
    }

    private static void plan(String name, int[] got, int which, int much) {
        is.due(name + ": which", got[0], which);
        is.due(name + ": how much", got[1], much);
    }

    private static int[] soon(StringReels x, int reel) {
        return new int[] {x.soon(reel, 0), x.soon(reel, 1)};
    }

    private static int[] give(StringReels x, int reel) {
        return new int[] {x.give(reel, 0), x.give(reel, 1)};
    }

    private static int[] spool(StringReels x, int reel) {
        return new int[] {x.spool(reel, 0), x.spool(reel, 1)};
    }

    private static void behindAllOthers() {
        is.sentence(0, "SOON of a REEL: the HOUR of a FLICK of it more, behind all others");
        // In hour 2 the hand makes the flick of reel 1, told ahead, so that one of reel 0 is missed.
        plan("missed in hour 2", soon(Answers.told("n40;n20", "", "a0;c1"), 0), 3, 4);
        plan("a hand of 2 makes both", soon(Answers.told("n40;n20", "2", "a0;c1"), 0), 2, 3);
        plan("a hand of its own", soon(Answers.told("n40;n21", "", "a0;c1"), 0), 2, 3);
    }

    private static void whateverRoom() {
        is.sentence(0, "(whatever room)");
        StringReels x = Answers.told("n40", "", "a0;" + Answers.times(15, "x7"));
        is.due("sixteen", x.count(2), 16);
        plan("a seventeenth", soon(x, 0), 2, 3);
        is.due("sixteen still", x.count(2), 16);
        is.due("the last is as it was", x.flick(15, 0), 23);
        is.due("it was not told", x.home(0, 0), NONE);
        is.due("the text is as it was", x.count(5), 47);
        is.due("and well", x.fault(2), NONE);
    }

    private static void soonest() {
        is.sentence(0, "by which it is HOME soonest, of like ones the least: which; when it is HOME");
        plan("hour 0, by the one beside it", soon(Answers.told("w10;n11", "", ""), 0), 0, 1);
        plan("home by any: the least", soon(Answers.told("n10", "", "a0;b0"), 0), 0, 1);
        plan("sooner than as told", soon(Answers.told("n40", "", "a0;f0"), 0), 2, 3);
        plan("two hours do: the less one", soon(Answers.told("n20", "", "x0"), 0), 21, 23);
        // Missed in hours 0, 21 and 22; stuck beside reel 1, which is not up, by all others but the last.
        plan("hour 23", soon(Answers.told("d20;n90", "", "a1;v1;w0"), 0), 23, 23);
    }

    private static void soonByNone() {
        is.sentence(0, "NONE: by none.");
        plan("one alone", soon(Answers.told("n90", "", ""), 0), NONE, NONE);
        StringReels x = Answers.told("n90", "", "a0");
        x.event(0, 4, 0);
        plan("cut", soon(x, 0), NONE, NONE);
        plan("too late", soon(Answers.told("n90", "", "u0"), 0), NONE, NONE);
        plan("not too late by an hour", soon(Answers.told("n90", "", "t0"), 0), 6, 23);
    }

    private static void giveInPlace() {
        is.sentence(0, "GIVE of a REEL: the HAND (0 to 7), in place of its own");
        StringReels x = Answers.told("n10;n11;n12;n13;n14;n15;n16;n10", "", "a0;a1;a2;a3;a4;a5;a6;a7");
        is.due("one is missed", x.missed(), 1);
        plan("hand 7 alone is free", give(x, 7), 7, 0);
        plan("hand 7 alone is free", give(x, 0), 7, 0);
        plan("reel 1 makes none free but its own", give(x, 1), 1, 1);
        is.due("its hand is as it was", x.reel(7, 2), 0);
        is.due("one is missed still", x.missed(), 1);
        x = Answers.told("n17;n17", "", "a0;a1");
        plan("hand 0", give(x, 0), 0, 0);
    }

    private static void giveFewest() {
        is.sentence(0, "by which fewest FLICKS are MISSED, of like ones the least: which; how many.");
        StringReels x = Answers.told("n13;n13", "1121", Answers.times(4, "a0") + ";a1");
        is.due("missed", x.missed(), 4);
        plan("hand 2 misses two", give(x, 0), 2, 2);
        plan("hand 0 misses none of reel 1", give(x, 1), 0, 3);
        plan("none is missed by any", give(Answers.told("n17", "", "a0"), 0), 0, 0);
        plan("all but nine", give(Answers.told("n10", "11111119", Answers.times(16, "a0")), 0), 7, 7);
        plan("two of like ones", give(Answers.told("n10", "1991", Answers.times(16, "a0")), 0), 1, 7);
    }

    private static void spoolInPlace() {
        is.sentence(0, "SPOOL of a REEL: how LONG (1 to 9), in place of its own");
        // Down in hours 11 on: one 9 long spins yet behind 23, one 8 long spins from hour 14 to 22.
        StringReels x = Answers.told("n10", "", "l0");
        plan("9 alone", spool(x, 0), 9, 0);
        is.due("as long as it was", x.reel(0, 1), 1);
        is.due("lost as it was", x.lost(), 1);
        plan("1 as well as all", spool(Answers.told("n90", "", ""), 0), 1, 0);
        plan("4, though its own does as well", spool(Answers.told("n90", "", "a0;f0"), 0), 4, 0);
    }

    private static void spoolFewest() {
        is.sentence(0, "by which fewest REELS are LOST, of like ones the least: which; how many.");
        StringReels x = Answers.told("n90;n91", "", "a0;a1");
        is.due("both are", x.lost(), 3);
        plan("both are, whatever", spool(x, 0), 1, 2);
        x = Answers.told("w10;w11", "", "a0;a1;c0");
        // One 3 long sleeps behind hour 1, comes up in hours 2 and 3, and then lifts the other one.
        plan("neither is", spool(x, 0), 3, 0);
        plan("both are, whatever", spool(x, 1), 1, 2);
        plan("all eight", spool(Answers.told(Answers.times(8, "w10"), "9", "a0;a1;a2;a3;a4;a5;a6;a7"), 7), 1, 8);
    }

    private static void spare(String name, StringReels x, int many, int first, int second) {
        is.due("spare: " + name, x.spare(NONE), many);
        is.due("spare 0: " + name, x.spare(0), first);
        is.due("spare 1: " + name, x.spare(1), second);
    }

    private static void spareFewest() {
        is.sentence(0, "SPARE: the fewest EVENTS (0 to 2) that had better not be, so that no REEL is LOST");
        StringReels x = Answers.told("n90;n91;n92", "", "u0;u1;u2");
        spare("none told", x, 0, NONE, NONE);
        for (int i = 0; i < 5; i++) {
            x.event(1, 0, i);
        }
        spare("none need be", x, 0, NONE, NONE);
        x.event(0, 22, 0);
        spare("one", x, 1, 5, NONE);
        x.event(0, 22, 1);
        spare("two", x, 2, 5, 6);
        x.event(0, 22, 2);
        spare("three", x, NONE, NONE, NONE);
        x.back();
        x.event(0, 23, 1);
        spare("two of one reel and one of another are three", x, NONE, NONE, NONE);
        is.due("all are as told", x.count(6), 8);
        is.due("lost as told", x.lost(), 3);
        x = Answers.told("n90", "", "u0");
        for (int i = 0; i < 7; i++) {
            x.event(1, 0, 0);
        }
        x.event(0, 22, 0);
        spare("the eighth alone", x, 1, 7, NONE);
        spare("no reels", new StringReels(), 0, NONE, NONE);
    }

    private static void spareLeastRow() {
        is.sentence(0, "of like ones the least row (each more than the one ahead): how many; the i-th");
        // Reel 0 is stuck by a damp in hour 1, reel 1 by one in hour 2; one that is up lifts the other one.
        StringReels x = Answers.told("n20;n21", "", "a0;b1;c0;d1");
        spare("neither is stuck", x, 0, NONE, NONE);
        x.event(1, 1, 0);
        spare("one is stuck, and lifted", x, 0, NONE, NONE);
        x.event(1, 2, 0);
        spare("either does", x, 1, 0, NONE);
        x.event(1, 2, 0);
        spare("the first does", x, 1, 0, NONE);
        x.event(1, 1, 0);
        spare("0 and 3 go ahead of 1 and 2", x, 2, 0, 3);
        x = Answers.told("n90;n91", "", "u0;u1");
        for (int i = 0; i < 6; i++) {
            x.event(1, 0, 0);
        }
        x.event(0, 22, 1);
        x.event(0, 22, 0);
        spare("the last two", x, 2, 6, 7);
    }

    private static void spareByNone() {
        is.sentence(0, "how many; the i-th; NONE.");
        StringReels x = Answers.told("w10", "", "a0");
        spare("stuck with no events", x, NONE, NONE, NONE);
        x.event(1, 0, 0);
        x.event(1, 0, 0);
        x.event(1, 0, 0);
        spare("stuck whatever", x, NONE, NONE, NONE);
    }

    private static void soon() {
        is.sentence(18, "SOON: which (what = 0), when (1); NONE. BAD.");
        StringReels x = Answers.told("n40;n41", "", "a0");
        is.taken("soon reel", reel -> x.soon(reel, 0), 0, 1);
        is.taken("soon reel", reel -> x.soon(reel, 1), 0, 1);
        is.taken("soon what", what -> x.soon(0, what), 0, 1);
        is.due("which", x.soon(0, 0), 2);
        is.due("when", x.soon(0, 1), 3);
        StringReels all = Answers.told(Answers.times(8, "n10"), "", "");
        is.taken("soon of eight", reel -> all.soon(reel, 0), 0, 7);
        is.due("of no reels", new StringReels().soon(0, 0), BAD);
        StringReels one = Answers.told("n40", "", "");
        is.due("none", one.soon(0, 0), NONE);
        is.due("none", one.soon(0, 1), NONE);
    }

    private static void give() {
        is.sentence(19, "GIVE: which (what = 0), how many (1). BAD.");
        StringReels x = Answers.told("n40;n41", "", "a0;a1");
        is.taken("give reel", reel -> x.give(reel, 0), 0, 1);
        is.taken("give reel", reel -> x.give(reel, 1), 0, 1);
        is.taken("give what", what -> x.give(0, what), 0, 1);
        is.due("which", x.give(1, 0), 1);
        is.due("how many", x.give(1, 1), 0);
        StringReels all = Answers.told(Answers.times(8, "n10"), "", "");
        is.taken("give of eight", reel -> all.give(reel, 0), 0, 7);
        is.due("of no reels", new StringReels().give(0, 0), BAD);
    }

    private static void spool() {
        is.sentence(20, "SPOOL: which (what = 0), how many (1). BAD.");
        StringReels x = Answers.told("n40;n41", "", "a0;a1");
        is.taken("spool reel", reel -> x.spool(reel, 0), 0, 1);
        is.taken("spool reel", reel -> x.spool(reel, 1), 0, 1);
        is.taken("spool what", what -> x.spool(0, what), 0, 1);
        is.due("which", x.spool(1, 0), 1);
        is.due("how many", x.spool(1, 1), 2);
        StringReels all = Answers.told(Answers.times(8, "n10"), "", "");
        is.taken("spool of eight", reel -> all.spool(reel, 0), 0, 7);
        is.due("of no reels", new StringReels().spool(0, 0), BAD);
    }

    private static void spare() {
        is.sentence(21, "SPARE: how many (i = NONE), the i-th (0, 1; NONE); NONE. BAD.");
        StringReels x = Answers.told("n90", "", "u0");
        is.taken("spare of none", x::spare, NONE, 1);
        x.event(0, 22, 0);
        is.taken("spare of one", x::spare, NONE, 1);
        x.event(0, 22, 0);
        is.taken("spare of two", x::spare, NONE, 1);
        is.due("how many", x.spare(NONE), 2);
        is.due("the first", x.spare(0), 0);
        is.due("the second", x.spare(1), 1);
        x.event(0, 22, 0);
        is.taken("spare by none", x::spare, NONE, 1);
        is.due("by none", x.spare(NONE), NONE);
    }
}
