/** Promises 1 to 11: a new object, texts, what is read from them, EVENTS. */
public final class TextsTest {
    private static final Answers is = new Answers();

    public static void main(String[] args) {
        newObject();
        typing();
        faults();
        reels();
        hands();
        flicks();
        events();
        reading();
        is.end();
    }

    private static void newObject() {
        StringReels x = new StringReels();
        for (int what = 0; what <= 8; what++) {
            is.due("new: count " + what, x.count(what), 0);
        }
        for (int s = 0; s < 4; s++) {
            is.due("new: lose " + s, x.lose(s), -11);
        }
        for (int hand = 0; hand < 8; hand++) {
            is.due("new: hand " + hand, x.hand(hand), 1);
        }
        is.due("new: missed", x.missed(), 0);
    }

    private static void typing() {
        int[] room = {31, 8, 47};
        for (int text = 0; text < 3; text++) {
            StringReels x = new StringReels();
            is.due("undo of an empty text", x.undo(text), StringReels.NOT);
            is.due("wipe of an empty text", x.wipe(text), 0);
            for (int i = 1; i <= room[text]; i++) {
                is.due("type " + text, x.type(text, i % 2 == 0 ? 0 : 255), i);
            }
            is.due("type when full", x.type(text, 0), StringReels.FULL);
            is.due("type of no byte when full", x.type(text, 256), StringReels.BAD);
            is.due("bytes when full", x.count(3 + text), room[text]);
            is.due("undo", x.undo(text), room[text] - 1);
            is.due("type again", x.type(text, 7), room[text]);
            is.due("wipe", x.wipe(text), room[text]);
            is.due("wiped", x.count(3 + text), 0);
            is.due("undo when wiped", x.undo(text), StringReels.NOT);
        }
        StringReels x = new StringReels();
        for (int text : new int[] {-1, 3, Integer.MIN_VALUE, Integer.MAX_VALUE}) {
            is.due("type in no text", x.type(text, 0), StringReels.BAD);
            is.due("wipe of no text", x.wipe(text), StringReels.BAD);
            is.due("undo of no text", x.undo(text), StringReels.BAD);
            is.due("fault of no text", x.fault(text), StringReels.BAD);
        }
        is.due("type of -1", x.type(0, -1), StringReels.BAD);
        is.due("type of 256", x.type(0, 256), StringReels.BAD);
        is.due("refused bytes", x.count(3), 0);
    }

    private static void fault(int text, String bytes, int want) {
        StringReels x = new StringReels();
        Answers.type(x, text, bytes);
        is.due("fault of " + text + " " + bytes, x.fault(text), want);
    }

    private static void faults() {
        int none = StringReels.NONE;
        fault(0, "", none);
        fault(0, "n", 1);
        fault(0, "n9", 2);
        fault(0, "n97", none);
        fault(0, "n97;", 4);
        fault(0, "n97;w10", none);
        fault(0, "n97,w10", 3);
        fault(0, "m97", 0);
        fault(0, ";n97", 0);
        fault(0, "N97", 0);
        fault(0, "n07", 1);
        fault(0, "n:7", 1);
        fault(0, "n18", 2);
        fault(0, "n1/", 2);
        fault(0, "n10;;", 4);
        fault(0, "n10;d1", 6);
        fault(0, "n10;n10;n10;n10;n10;n10;n10;n10", none);
        fault(0, "n10;n10;n10;n10;n10;n10;n10;n18", 30);
        fault(1, "", none);
        fault(1, "123456", none);
        fault(1, "12345678", none);
        fault(1, "0", 0);
        fault(1, "90", 1);
        fault(1, "1;1", 1);
        fault(1, "1234567:", 7);
        fault(2, "", none);
        fault(2, "a", 1);
        fault(2, "a0", none);
        fault(2, "x7", none);
        fault(2, "y7", 0);
        fault(2, "`7", 0);
        fault(2, "x8", 1);
        fault(2, "x/", 1);
        fault(2, "a0;", 3);
        fault(2, "a0a0", 2);
        fault(2, "a0;b", 4);
        fault(2, "a0;a0;a0;a0;a0;a0;a0;a0;a0;a0;a0;a0;a0;a0;a0;a0", none);
        StringReels x = Answers.told("n97", "29", "c0");
        Answers.type(x, 0, ";");
        Answers.type(x, 1, "0");
        Answers.type(x, 2, ";");
        for (int what = 0; what <= 2; what++) {
            is.due("with faults: count " + what, x.count(what), 0);
        }
        is.due("with faults: bytes", x.count(3), 4);
        is.due("with faults: reel", x.reel(0, 0), StringReels.BAD);
        is.due("with faults: hand", x.hand(1), 1);
        is.due("with faults: flick", x.flick(0, 0), StringReels.NONE);
        for (int text = 0; text < 3; text++) {
            x.undo(text);
        }
        StringReels y = Answers.told("n97", "29", "c0");
        for (int text = 0; text < 3; text++) {
            y.wipe(text);
            is.due("wiped: count " + text, y.count(text), 0);
        }
        is.due("wiped: reel", y.reel(0, 0), StringReels.BAD);
        is.due("wiped: hand", y.hand(0), 1);
        is.due("wiped: flick", y.flick(0, 0), StringReels.NONE);
        is.due("well again: reels", x.count(0), 1);
        is.due("well again: hand", x.hand(1), 9);
        is.due("well again: flick", x.flick(0, 0), 2);
    }

    private static void reels() {
        StringReels x = Answers.told("n97;w10;d52", "", "");
        int[][] want = {{0, 9, 7}, {1, 1, 0}, {2, 5, 2}};
        for (int reel = 0; reel < 3; reel++) {
            for (int what = 0; what < 3; what++) {
                is.due("reel " + reel + " " + what, x.reel(reel, what), want[reel][what]);
            }
        }
        is.due("reel -1", x.reel(-1, 0), StringReels.BAD);
        is.due("reel 3", x.reel(3, 0), StringReels.BAD);
        is.due("reel what -1", x.reel(0, -1), StringReels.BAD);
        is.due("reel what 3", x.reel(0, 3), StringReels.BAD);
        is.due("count 0", x.count(0), 3);
    }

    private static void hands() {
        StringReels x = Answers.told("", "935", "");
        int[] want = {9, 3, 5, 1, 1, 1, 1, 1};
        for (int hand = 0; hand < 8; hand++) {
            is.due("hand " + hand, x.hand(hand), want[hand]);
        }
        is.due("hand -1", x.hand(-1), StringReels.BAD);
        is.due("hand 8", x.hand(8), StringReels.BAD);
        is.due("count 1", x.count(1), 3);
    }

    private static void flicks() {
        StringReels x = Answers.told("", "", "a7;x0");
        is.due("flick 0 0", x.flick(0, 0), 0);
        is.due("flick 0 1", x.flick(0, 1), 7);
        is.due("flick 1 0", x.flick(1, 0), 23);
        is.due("flick 1 1", x.flick(1, 1), 0);
        is.due("flick 2 0", x.flick(2, 0), StringReels.NONE);
        is.due("flick 15 1", x.flick(15, 1), StringReels.NONE);
        is.due("flick -1", x.flick(-1, 0), StringReels.BAD);
        is.due("flick 16", x.flick(16, 0), StringReels.BAD);
        is.due("flick what 2", x.flick(0, 2), StringReels.BAD);
        is.due("flick what -1 of none", x.flick(9, -1), StringReels.BAD);
        is.due("count 2", x.count(2), 2);
    }

    private static void events() {
        StringReels x = new StringReels();
        is.due("back of none", x.back(), StringReels.NOT);
        is.due("event kind -1", x.event(-1, 0, 0), StringReels.BAD);
        is.due("event kind 2", x.event(2, 0, 0), StringReels.BAD);
        is.due("event hour -1", x.event(0, -1, 0), StringReels.BAD);
        is.due("event hour 24", x.event(0, 24, 0), StringReels.BAD);
        is.due("event reel -1", x.event(0, 0, -1), StringReels.BAD);
        is.due("a damp of reel 8", x.event(1, 0, 8), StringReels.BAD);
        for (int i = 1; i <= 8; i++) {
            is.due("event", x.event(i % 2, 23, 7), i);
        }
        is.due("event when full", x.event(0, 0, 0), StringReels.FULL);
        is.due("bad event when full", x.event(0, 24, 0), StringReels.BAD);
        is.due("count 6", x.count(6), 8);
        is.due("back", x.back(), 7);
        is.due("event again", x.event(0, 0, 0), 8);
        for (int i = 7; i >= 0; i--) {
            is.due("back", x.back(), i);
        }
        is.due("back of none", x.back(), StringReels.NOT);
    }

    private static void lay(StringReels x, int s, int form, int... values) {
        x.sheet(s, form, values.length);
        for (int i = 0; i < values.length; i++) {
            x.lay(s, form, i, values[i]);
        }
    }

    private static void reading() {
        StringReels x = Answers.told("n40", "", "a0");
        is.due("read of sheet -1", x.read(-1), StringReels.BAD);
        is.due("read of sheet 4", x.read(4), StringReels.BAD);
        is.due("read of a lost sheet", x.read(3), -11);
        is.due("finding", x.count(8), 1);
        lay(x, 0, 2);
        is.due("read of no items", x.read(0), 0);
        lay(x, 0, 2, 0, 1);
        is.due("read of less than one", x.read(0), 0);
        lay(x, 0, 0, 0, 1, 0, 1, 23, 7, 0, 0);
        is.due("ahead of the cut", x.at(1, 0, 1), 2);
        is.due("read of two and a bit", x.read(0), 2);
        is.due("the cut that was read is done", x.at(1, 0, 1), 5);
        is.due("a damp that was read is behind it", x.back(), 1);
        lay(x, 1, 1, 0, 24, 0, 0, 0, 0);
        is.due("read of a bad one first", x.read(1), 0);
        lay(x, 1, 1, 1, 0, 0, 1, 0, 8, 1, 0, 0);
        is.due("read up to a bad one", x.read(1), 1);
        lay(x, 2, 2, new int[60]);
        is.due("read into what room there is", x.read(2), 6);
        is.due("count 6", x.count(6), 8);
        is.due("read into no room", x.read(2), 0);
    }
}
