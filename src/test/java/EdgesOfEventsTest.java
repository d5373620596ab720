/** A test for each sentence on a boundary of EVENTS, and of promises 9 to 11. */
public final class EdgesOfEventsTest {
    private static final int BAD = StringReels.BAD, NOT = StringReels.NOT, FULL = StringReels.FULL;
    private static final int[][] NO_EVENTS = {{-1, 0, 0}, {2, 0, 0}, {0, -1, 0}, {0, 24, 0}, {0, 0, -1}, {1, 0, 8}};
    private static final Answers is = new Answers();

    public static void main(String[] args) {
        events();
        event();
        back();
        readRefused();
        readWhole();
        readAsLongAsEachMayBe();
        readAsThereIsRoom();
        readOfEachForm();
        is.end();
    }

    private static void events() {
        is.sentence(0, "EVENTS, 8 at most (0 on): a kind, an HOUR, a REEL (0 to 7): 0 a CUT, 1 a DAMP (of all, whichever is told).");
        StringReels x = Answers.told("n90", "", "a0");
        for (int i = 0; i < 7; i++) {
            x.event(1, 0, 7);
        }
        is.due("the eighth", x.event(0, 1, 0), 8);
        is.due("is done", x.at(1, 0, 1), 5);
        is.due("a ninth", x.event(0, 0, 0), FULL);
        x = Answers.told("n60;n61", "", "a0;a1");
        x.event(0, 3, 1);
        is.row("a cut is of the one told", x, 0, 1, "112222");
        is.row("a cut is of the one told", x, 1, 1, "112555");
        for (int reel = 0; reel < 8; reel++) {
            x.back();
            x.event(1, 3, reel);
            is.row("a damp is of all, told of " + reel, x, 0, 2, "0063210");
            is.row("a damp is of all, told of " + reel, x, 1, 2, "0063210");
        }
    }

    private static void event() {
        is.sentence(9, "An EVENT more: how many. BAD; FULL.");
        is.taken("event kind", kind -> new StringReels().event(kind, 0, 0), 0, 1);
        is.taken("event hour", hour -> new StringReels().event(0, hour, 0), 0, 23);
        is.taken("event reel", reel -> new StringReels().event(0, 0, reel), 0, 7);
        is.taken("reel of a damp", reel -> new StringReels().event(1, 0, reel), 0, 7);
        StringReels x = new StringReels();
        for (int i = 1; i <= 8; i++) {
            is.due("event", x.event(i % 2, 23, 7), i);
        }
        is.due("full", x.event(0, 0, 0), FULL);
        for (int[] e : NO_EVENTS) {
            is.due("no event, and full", x.event(e[0], e[1], e[2]), BAD);
        }
        is.due("as many as were", x.count(6), 8);
        x.back();
        is.due("room for one", x.event(0, 0, 0), 8);
        is.due("full again", x.event(0, 0, 0), FULL);
    }

    private static void back() {
        is.sentence(10, "The last EVENT is undone: how many are left. NOT: there is none.");
        StringReels x = Answers.told("n90", "", "a0");
        is.due("of none", x.back(), NOT);
        x.event(0, 3, 0);
        for (int hour = 2; hour <= 8; hour++) {
            x.event(0, hour == 2 ? 2 : 20, 0);
        }
        for (int left = 7; left >= 2; left--) {
            is.due("back", x.back(), left);
            is.due("events", x.count(6), left);
        }
        is.due("cut in hour 2", x.at(2, 0, 1), 5);
        is.due("the last one is undone, not the first", x.back(), 1);
        is.row("cut in hour 3", x, 0, 1, "1115");
        is.due("the only one", x.back(), 0);
        is.row("not cut", x, 0, 1, "1111");
        is.due("of none", x.back(), NOT);
        is.due("none", x.count(6), 0);
    }

    private static void readRefused() {
        is.sentence(11, "how many came. BAD; NULL.");
        StringReels x = new StringReels();
        is.taken("read", x::read, 0, 3);
        for (int s = 0; s < 4; s++) {
            is.due("read of a lost one", x.read(s), -11);
        }
        is.due("finding", x.count(8), 1);
        for (int i = 0; i < 8; i++) {
            x.event(0, 0, 0);
        }
        is.due("of a lost one, and no room", x.read(0), -11);
        is.due("no such sheet, and no room", x.read(4), BAD);
        is.due("as many as were", x.count(6), 8);
    }

    private static void readWhole() {
        is.sentence(11, "its items, three for each, as many as are whole");
        for (int items = 0; items <= 60; items++) {
            StringReels x = new StringReels();
            x.sheet(3, 1, items);
            is.due("read of " + items, x.read(3), Math.min(8, items / 3));
            is.due("events of " + items, x.count(6), Math.min(8, items / 3));
            is.due("no finding", x.count(8), 0);
            is.due("the sheet is as it was", x.lose(3), items);
        }
        StringReels x = Answers.told("n90;n91", "", "a0;a1");
        Answers.lay(x, 0, 2, 0, 3, 1, 0, 2, 0);
        is.due("read", x.read(0), 2);
        is.row("kind, hour, reel", x, 0, 1, "115555");
        is.row("kind, hour, reel", x, 1, 1, "111555");
        is.due("the second is the last", x.back(), 1);
        is.row("as the first is", x, 0, 1, "111122");
        is.row("as the first is", x, 1, 1, "111555");
    }

    private static void readAsLongAsEachMayBe() {
        is.sentence(11, "as long as each may be");
        int[][] last = {{0, 0, 0}, {1, 0, 0}, {0, 23, 0}, {0, 0, 7}, {1, 23, 7}};
        for (int[] e : last) {
            StringReels x = new StringReels();
            Answers.lay(x, 0, 2, e);
            is.due("one that may be", x.read(0), 1);
        }
        for (int[] e : NO_EVENTS) {
            StringReels x = new StringReels();
            Answers.lay(x, 0, 2, e[0], e[1], e[2], 0, 0, 0);
            is.due("the first may not be", x.read(0), 0);
            is.due("none came", x.count(6), 0);
            Answers.lay(x, 0, 2, 0, 0, 0, 1, 23, 7, e[0], e[1], e[2], 0, 0, 0);
            is.due("the third may not be", x.read(0), 2);
            is.due("two came", x.count(6), 2);
            is.due("no finding", x.count(8), 0);
        }
        StringReels x = new StringReels();
        Answers.lay(x, 0, 2, 65536, 0, 0);
        is.due("an int is not cut", x.read(0), 0);
    }

    private static void readAsThereIsRoom() {
        is.sentence(11, "and there is room");
        for (int had = 0; had <= 8; had++) {
            StringReels x = new StringReels();
            for (int i = 0; i < had; i++) {
                x.event(1, 0, 0);
            }
            x.sheet(0, 0, 60);
            is.due("read into " + had, x.read(0), 8 - had);
            is.due("full", x.count(6), 8);
            is.due("read again", x.read(0), 0);
            is.due("an event more", x.event(0, 0, 0), FULL);
        }
    }

    private static void readOfEachForm() {
        is.sentence(11, "EVENTS more, from a SHEET");
        for (int form = 0; form < 3; form++) {
            StringReels x = Answers.told("n20", "", "a0");
            Answers.lay(x, form, form, 0, 1, 0);
            is.due("read of form " + form, x.read(form), 1);
            is.row("cut", x, 0, 1, "255");
            x.back();
            Answers.lay(x, form, form, 0, 255, 0);
            is.due("255 is no hour, nor is -1: form " + form, x.read(form), 0);
        }
    }
}
