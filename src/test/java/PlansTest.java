/** Promises 18 to 21: SOON, GIVE, SPOOL, SPARE. */
public final class PlansTest {
    private static final Answers is = new Answers();

    public static void main(String[] args) {
        soon();
        give();
        spool();
        spare();
        refusals();
        is.end();
    }

    private static void soon(String name, StringReels x, int reel, int which, int when) {
        is.due("soon which: " + name, x.soon(reel, 0), which);
        is.due("soon when: " + name, x.soon(reel, 1), when);
    }

    private static void soon() {
        soon("by none", Answers.told("n40", "", ""), 0, StringReels.NONE, StringReels.NONE);
        soon("one comes up", Answers.told("n40", "", "a0"), 0, 2, 3);
        soon("the least of like ones", Answers.told("n40", "", "a0;c0"), 0, 0, 3);
        soon("by the neighbours", Answers.told("w10;n11", "", ""), 0, 0, 1);
        soon("behind all others", Answers.told("n20;w10;n30", "", "a2"), 1, 1, 2);
        // Sooner ones are missed in hours 0, 21 and 22, and leave it stuck beside reel 1 in others.
        soon("in the last hour", Answers.told("d20;n90", "", "a1;v1;w0"), 0, 23, 23);
        soon("sooner than it was", Answers.told("n40", "", "a0;f0"), 0, 2, 3);
        String many = "a0;a7;a7;a7;a7;a7;a7;a7;a7;a7;a7;a7;a7;a7;a7;a7";
        StringReels x = Answers.told("n40", "", many);
        is.due("sixteen flicks", x.count(2), 16);
        soon("whatever room", x, 0, 2, 3);
        is.due("sixteen flicks still", x.count(2), 16);
        is.due("the last flick still", x.flick(15, 1), 7);
        is.due("it is not made", x.home(0, 0), StringReels.NONE);
        x = Answers.told("n40", "", "a0");
        x.event(0, 2, 0);
        soon("cut ahead of it", x, 0, StringReels.NONE, StringReels.NONE);
    }

    private static void give(String name, StringReels x, int reel, int which, int many) {
        is.due("give which: " + name, x.give(reel, 0), which);
        is.due("give how many: " + name, x.give(reel, 1), many);
    }

    private static void give() {
        give("no flicks", Answers.told("n15", "", ""), 0, 0, 0);
        StringReels x = Answers.told("n10;n10;n10", "12", "a0;a1;a2");
        is.due("missed", x.missed(), 2);
        give("a hand of its own", x, 0, 1, 1);
        give("a hand of its own", x, 2, 1, 1);
        is.due("its hand is as it was", x.reel(0, 2), 0);
        is.due("missed as it was", x.missed(), 2);
        give("the last hand", Answers.told("n10;n11;n12;n13;n14;n15;n16;n10", "", "a0;a1;a2;a3;a4;a5;a6;a7"), 7, 7, 0);
        give("in the last hour", Answers.told("n10;n10", "", "x0;x1"), 1, 1, 0);
        give("a quick hand with others", Answers.told("n10;n11;n11", "12", "a0;a1;a1;a0"), 0, 0, 1);
    }

    private static void spool(String name, StringReels x, int reel, int which, int many) {
        is.due("spool which: " + name, x.spool(reel, 0), which);
        is.due("spool how many: " + name, x.spool(reel, 1), many);
    }

    private static void spool() {
        spool("lost whatever", Answers.told("w90", "", "a0"), 0, 1, 1);
        spool("long enough to sleep yet", Answers.told("w10", "", "a0;c0"), 0, 3, 0);
        StringReels late = Answers.told("n10;n11;n12", "", "a1");
        late.event(0, 23, 1);
        spool("up when it is cut", late, 1, 1, 0);
        spool("still away when it is cut", Answers.told("w10", "", "x0"), 0, 2, 0);
        spool("never away", Answers.told("w90", "", ""), 0, 1, 0);
        StringReels x = Answers.told("n90;n91", "", "a1");
        x.event(0, 1, 1);
        spool("another one is lost", x, 0, 1, 1);
        spool("cut whatever", x, 1, 1, 1);
        is.due("its length is as it was", x.reel(1, 1), 9);
        is.due("as deep as it was", x.at(23, 1, 0), 2);
        // Down in hours 11 to 15, it spins for 1 hour yet behind hour 23.
        spool("only the longest", Answers.told("n10", "", "l0"), 0, 9, 0);
    }

    private static void spare(String name, StringReels x, int many, int first, int second) {
        is.due("spare: " + name, x.spare(StringReels.NONE), many);
        is.due("spare 0: " + name, x.spare(0), first);
        is.due("spare 1: " + name, x.spare(1), second);
    }

    private static void spare() {
        int none = StringReels.NONE;
        StringReels x = Answers.told("n90;n91;n92", "", "u0;u1;u2");
        spare("no events", x, 0, none, none);
        x.event(1, 22, 0);
        spare("none need be spared", x, 0, none, none);
        x.event(0, 22, 1);
        spare("one", x, 1, 1, none);
        x.event(1, 22, 0);
        x.event(0, 21, 0);
        spare("two", x, 2, 1, 3);
        x.event(0, 23, 2);
        spare("three are too many", x, none, none, none);
        is.due("events as they were", x.count(6), 5);
        is.due("lost as they were", x.lost(), 7);
        x = Answers.told("n50", "", "a0;f0");
        x.event(1, 3, 0);
        spare("one damp is borne", x, 0, none, none);
        x.event(1, 4, 0);
        spare("the least of like ones", x, 1, 0, none);
        x = Answers.told("n50", "", "a0;f0");
        for (int i = 0; i < 3; i++) {
            x.event(1, 3, 0);
        }
        spare("the least row", x, 2, 0, 1);
        x = Answers.told("w10", "", "a0");
        x.event(0, 0, 0);
        spare("no event did it", x, none, none, none);
    }

    private static void refusals() {
        StringReels x = Answers.told("n10;n10", "", "");
        for (int n : new int[] {-1, 2, Integer.MAX_VALUE, Integer.MIN_VALUE}) {
            is.due("soon reel", x.soon(n, 0), StringReels.BAD);
            is.due("soon what", x.soon(0, n), StringReels.BAD);
            is.due("give reel", x.give(n, 0), StringReels.BAD);
            is.due("give what", x.give(0, n), StringReels.BAD);
            is.due("spool reel", x.spool(n, 0), StringReels.BAD);
            is.due("spool what", x.spool(0, n), StringReels.BAD);
        }
        is.due("spare -2", x.spare(-2), StringReels.BAD);
        is.due("spare 2", x.spare(2), StringReels.BAD);
    }
}
