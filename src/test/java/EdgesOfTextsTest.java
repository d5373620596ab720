/** A test for each sentence on a boundary of the texts, and of promises 1 to 8. */
public final class EdgesOfTextsTest {
    private static final int NONE = StringReels.NONE, BAD = StringReels.BAD, NOT = StringReels.NOT;
    private static final int FULL = StringReels.FULL;
    private static final String FIGURES = "123456789", EIGHT = "01234567", LETTERS = "abcdefghijklmnopqrstuvwx";
    private static final int[] ROOM = {31, 8, 47};
    private static final Answers is = new Answers();

    public static void main(String[] args) {
        roomOfReels();
        bytesOfReels();
        hands();
        roomOfFlicks();
        bytesOfFlicks();
        firstFault();
        notEnded();
        oneTooMany();
        withFaultInReels();
        withFaultInHands();
        withFaultInFlicks();
        calls512();
        newObject();
        type();
        wipe();
        undo();
        fault();
        reel();
        hand();
        flick();
        is.end();
    }

    /** The next byte goes on with a text if, and only if, it is one of these: all 256 are tried. */
    private static void goesOn(int text, String ahead, String allowed) {
        for (int b = 0; b <= 255; b++) {
            StringReels x = new StringReels();
            Answers.type(x, text, ahead);
            is.due("type " + text + " " + ahead + " and " + b, x.type(text, b), ahead.length() + 1);
            boolean stops = x.fault(text) == ahead.length();
            is.holds("text " + text + ", " + ahead + " and " + b, stops == (allowed.indexOf(b) < 0));
        }
    }

    private static void roomOfReels() {
        is.sentence(0, "REELS are a text of up to 31 bytes (text 0), 8 at most (0 on, side by side), with ; between them");
        StringReels x = new StringReels();
        String eight = "n10;w21;d32;n43;w54;d65;n76;w97";
        for (int i = 0; i < 31; i++) {
            is.due("byte " + i, x.type(0, eight.charAt(i)), i + 1);
            is.due("reels of " + (i + 1) + " bytes", x.count(0), i % 4 == 2 ? i / 4 + 1 : 0);
        }
        is.due("reels", x.count(0), 8);
        is.due("the first", x.reel(0, 1), 1);
        is.due("the last", x.reel(7, 1), 9);
        is.due("a ninth is none", x.reel(8, 1), BAD);
        is.due("a byte more", x.type(0, ';'), FULL);
        is.due("eight still", x.count(0), 8);
        x = new StringReels();
        is.due("none", x.count(0), 0);
        is.due("the first of none", x.reel(0, 1), BAD);
        for (int i = 0; i < 31; i++) {
            is.due("a byte that is none of theirs", x.type(0, 'q'), i + 1);
        }
        is.due("a byte more", x.type(0, 'q'), FULL);
    }

    private static void bytesOfReels() {
        is.sentence(0, "n (new), w (worn) or d (damp), a figure 1 to 9, how LONG the string is, and a figure 0 to 7, the HAND.");
        goesOn(0, "", "nwd");
        goesOn(0, "n", FIGURES);
        goesOn(0, "n1", EIGHT);
        goesOn(0, "n10", ";");
        goesOn(0, "n10;", "nwd");
        String seven = Answers.times(7, "d97");
        goesOn(0, seven, ";");
        goesOn(0, seven + ";", "nwd");
        goesOn(0, seven + ";w", FIGURES);
        goesOn(0, seven + ";w9", EIGHT);
        StringReels x = Answers.told("n10;w97;d97", "", "");
        int[][] want = {{0, 1, 0}, {1, 9, 7}, {2, 9, 7}};
        for (int reel = 0; reel < 3; reel++) {
            for (int what = 0; what < 3; what++) {
                is.due("reel " + reel + " " + what, x.reel(reel, what), want[reel][what]);
            }
        }
    }

    private static void hands() {
        is.sentence(0, "HANDS are a text of up to 8 figures 1 to 9 (text 1), how QUICK each is (0 on); 1 of later ones.");
        goesOn(1, "", FIGURES);
        goesOn(1, "9", FIGURES);
        goesOn(1, "1234567", FIGURES);
        StringReels x = new StringReels();
        for (int told = 0; told <= 8; told++) {
            is.due("hands told", x.count(1), told);
            for (int hand = 0; hand < 8; hand++) {
                is.due("hand " + hand + " of " + told, x.hand(hand), hand < told ? 9 - hand : 1);
            }
            is.due("type", x.type(1, '9' - told % 8), told < 8 ? told + 1 : FULL);
        }
        is.due("eight still", x.count(1), 8);
        x = Answers.told("n96;n97", "9999999", "a0;a0;a1;a1;a1");
        is.due("hand 6 is told, hand 7 is a later one: missed", x.missed(), 2);
    }

    private static void roomOfFlicks() {
        is.sentence(0, "FLICKS are a text of up to 47 bytes (text 2), 16 at most, with ; between them");
        StringReels x = new StringReels();
        String sixteen = Answers.times(15, "a0") + ";x7";
        for (int i = 0; i < 47; i++) {
            is.due("byte " + i, x.type(2, sixteen.charAt(i)), i + 1);
            is.due("flicks of " + (i + 1) + " bytes", x.count(2), i % 3 == 1 ? i / 3 + 1 : 0);
        }
        is.due("flicks", x.count(2), 16);
        is.due("the last", x.flick(15, 0), 23);
        is.due("a byte more", x.type(2, ';'), FULL);
        is.due("sixteen still", x.count(2), 16);
        x = new StringReels();
        is.due("none", x.count(2), 0);
        for (int i = 0; i < 47; i++) {
            is.due("a byte that is none of theirs", x.type(2, 'y'), i + 1);
        }
        is.due("a byte more", x.type(2, 'y'), FULL);
    }

    private static void bytesOfFlicks() {
        is.sentence(0, "a letter a to x, the HOUR (0 to 23), and a figure 0 to 7, the REEL.");
        goesOn(2, "", LETTERS);
        goesOn(2, "x", EIGHT);
        goesOn(2, "x7", ";");
        goesOn(2, "x7;", LETTERS);
        String fifteen = Answers.times(15, "a0");
        goesOn(2, fifteen, ";");
        goesOn(2, fifteen + ";", LETTERS);
        goesOn(2, fifteen + ";a", EIGHT);
        StringReels x = Answers.told("", "", "a0;x7");
        is.due("the first hour", x.flick(0, 0), 0);
        is.due("the first reel", x.flick(0, 1), 0);
        is.due("the last hour", x.flick(1, 0), 23);
        is.due("the last reel", x.flick(1, 1), 7);
    }

    private static void fault(int text, String bytes, int want) {
        StringReels x = new StringReels();
        Answers.type(x, text, bytes);
        is.due("fault of " + text + " " + bytes, x.fault(text), want);
    }

    private static void firstFault() {
        is.sentence(0, "The FAULT of a text is the place of the first byte with which it cannot go on");
        fault(0, "qq", 0);
        fault(0, "n0q", 1);
        fault(0, "n18q", 2);
        fault(0, "n10;q10;q", 4);
        fault(0, Answers.times(7, "n10") + ";n19", 30);
        fault(0, "n10n10", 3);
        fault(1, "0a", 0);
        fault(1, "90a", 1);
        fault(1, "9999999a", 7);
        fault(2, "yy", 0);
        fault(2, "a8y", 1);
        fault(2, "a0b0", 2);
        fault(2, Answers.times(15, "a0") + ";x8", 46);
        StringReels x = Answers.told("n1q", "", "");
        is.due("a fault", x.fault(0), 2);
        Answers.type(x, 0, ";n10");
        is.due("what comes behind mends nothing", x.fault(0), 2);
        for (int i = 0; i < 5; i++) {
            x.undo(0);
        }
        x.type(0, '0');
        is.due("what is undone is no fault", x.fault(0), NONE);
    }

    private static void notEnded() {
        is.sentence(0, "(an empty one is well; of one that is not ended, as behind a ;, its end)");
        for (int text = 0; text < 3; text++) {
            fault(text, "", NONE);
        }
        String eight = Answers.times(8, "n10");
        for (int n = 1; n <= 31; n++) {
            fault(0, eight.substring(0, n), n % 4 == 3 ? NONE : n);
        }
        for (int n = 1; n <= 8; n++) {
            fault(1, "98765432".substring(0, n), NONE);
        }
        String sixteen = Answers.times(16, "x7");
        for (int n = 1; n <= 47; n++) {
            fault(2, sixteen.substring(0, n), n % 3 == 2 ? NONE : n);
        }
    }

    private static void oneTooMany() {
        is.sentence(0, "here also of the first byte of a ninth REEL, of a seventeenth FLICK.");
        // The text is full ahead of its first byte, so that such a one never comes.
        StringReels x = Answers.told(Answers.times(8, "n10"), "", Answers.times(16, "a0"));
        for (char c : ";n10".toCharArray()) {
            is.due("of a ninth reel", x.type(0, c), FULL);
        }
        for (char c : ";a0".toCharArray()) {
            is.due("of a seventeenth flick", x.type(2, c), FULL);
        }
        is.due("eight reels are well", x.fault(0), NONE);
        is.due("sixteen flicks are well", x.fault(2), NONE);
        is.due("eight", x.count(0), 8);
        is.due("sixteen", x.count(2), 16);
    }

    private static void withFaultInReels() {
        is.sentence(0, "With a FAULT a text is as if it was empty.");
        StringReels x = Answers.told("w10;w11;", "", "a0;a0");
        is.due("reels", x.count(0), 0);
        is.due("bytes", x.count(3), 8);
        is.due("reel", x.reel(0, 0), BAD);
        is.due("at", x.at(0, 0, 0), BAD);
        is.due("home", x.home(0, 0), BAD);
        is.due("missed, of reels that are not", x.missed(), 0);
        is.due("lost", x.lost(), 0);
        is.due("days", x.days(7, 16, 1), 0);
        is.due("the flicks stay", x.count(2), 2);
        x.undo(0);
        is.due("well again: reels", x.count(0), 2);
        is.due("well again: missed", x.missed(), 1);
        is.due("well again: at", x.at(0, 0, 1), 4);
    }

    private static void withFaultInHands() {
        is.sentence(0, "With a FAULT a text is as if it was empty.");
        StringReels x = Answers.told("n90", "90", "a0;a0;a0");
        is.due("hands", x.count(1), 0);
        is.due("bytes", x.count(4), 2);
        is.due("hand 0", x.hand(0), 1);
        is.due("missed", x.missed(), 2);
        x.undo(1);
        is.due("well again: hand 0", x.hand(0), 9);
        is.due("well again: missed", x.missed(), 0);
    }

    private static void withFaultInFlicks() {
        is.sentence(0, "With a FAULT a text is as if it was empty.");
        StringReels x = Answers.told("n90", "", "a0;a0;y");
        is.due("flicks", x.count(2), 0);
        is.due("bytes", x.count(5), 7);
        is.due("flick 0", x.flick(0, 0), NONE);
        is.due("missed", x.missed(), 0);
        is.due("at", x.at(0, 0, 1), 0);
        x.undo(2);
        x.undo(2);
        is.due("well again: flick 0", x.flick(0, 0), 0);
        is.due("well again: missed", x.missed(), 1);
        is.due("well again: at", x.at(0, 0, 1), 1);
    }

    private static void calls512() {
        is.sentence(0, "An object is used for at most 512 calls after it has been made");
        StringReels x = Answers.told("n50", "", "b0");
        for (int call = 6; call <= 510; call++) {
            is.due("call " + call, x.at(call % 24, 0, 0), Math.max(0, Math.min(5, 2 * (call % 24))));
        }
        is.due("call 511", x.event(0, 2, 0), 1);
        is.due("call 512", x.at(23, 0, 0), 2);
    }

    private static void newObject() {
        is.sentence(1, "No REELS, no HANDS, no FLICKS; all SHEETS are LOST.");
        StringReels x = new StringReels();
        for (int what = 0; what <= 8; what++) {
            is.due("count " + what, x.count(what), 0);
        }
        for (int text = 0; text < 3; text++) {
            is.due("fault " + text, x.fault(text), NONE);
        }
        for (int i = 0; i < 8; i++) {
            is.due("reel " + i, x.reel(i, 0), BAD);
            is.due("hand " + i, x.hand(i), 1);
        }
        for (int i = 0; i < 16; i++) {
            is.due("flick " + i, x.flick(i, 0), NONE);
        }
        for (int s = 0; s < 4; s++) {
            is.due("lose " + s, x.lose(s), -11);
        }
    }

    private static void type() {
        is.sentence(2, "A byte (0 to 255) comes behind a text: how many. BAD; FULL.");
        is.taken("type in", text -> new StringReels().type(text, 'n'), 0, 2);
        for (int text = 0; text < 3; text++) {
            int t = text;
            is.taken("type in " + t, b -> new StringReels().type(t, b), 0, 255);
            StringReels x = new StringReels();
            for (int n = 1; n <= ROOM[t]; n++) {
                is.due("type in " + t, x.type(t, n % 2 == 0 ? 0 : 255), n);
            }
            is.due("full " + t, x.type(t, 0), FULL);
            is.due("full " + t, x.type(t, 255), FULL);
            is.due("full, and no byte: " + t, x.type(t, -1), BAD);
            is.due("full, and no byte: " + t, x.type(t, 256), BAD);
            is.due("bytes of " + t, x.count(3 + t), ROOM[t]);
            for (int other = 0; other < 3; other++) {
                is.due("bytes of another", x.count(3 + other), other == t ? ROOM[t] : 0);
            }
        }
    }

    private static void wipe() {
        is.sentence(3, "A text is empty: how many bytes it had. BAD.");
        is.taken("wipe", text -> new StringReels().wipe(text), 0, 2);
        for (int text = 0; text < 3; text++) {
            StringReels x = Answers.told(Answers.times(8, "n10"), "98765432", Answers.times(16, "a0"));
            is.due("wipe of a full one", x.wipe(text), ROOM[text]);
            is.due("wipe of an empty one", x.wipe(text), 0);
            for (int other = 0; other < 3; other++) {
                is.due("bytes of " + other, x.count(3 + other), other == text ? 0 : ROOM[other]);
            }
            is.due("things told", x.count(text), 0);
            is.due("it can be typed anew", x.type(text, '9'), 1);
            is.due("wipe of one byte", x.wipe(text), 1);
            Answers.type(x, text, "q");
            is.due("wipe of one with a fault", x.wipe(text), 1);
            is.due("fault", x.fault(text), NONE);
        }
    }

    private static void undo() {
        is.sentence(4, "The last byte of a text is undone: how many are left. BAD; NOT: it is empty.");
        StringReels none = new StringReels();
        is.taken("undo", none::undo, 0, 2);
        for (int text = 0; text < 3; text++) {
            is.due("undo of an empty one", none.undo(text), NOT);
            StringReels x = Answers.told(Answers.times(8, "n10"), "98765432", Answers.times(16, "a0"));
            for (int left = ROOM[text] - 1; left >= 0; left--) {
                is.due("undo", x.undo(text), left);
                is.due("bytes", x.count(3 + text), left);
            }
            is.due("undo of an empty one", x.undo(text), NOT);
            is.due("bytes", x.count(3 + text), 0);
            is.due("bytes of another", x.count(3 + (text + 1) % 3), ROOM[(text + 1) % 3]);
        }
        StringReels x = Answers.told("n10;w20", "", "");
        x.undo(0);
        x.type(0, '7');
        is.due("another last byte", x.reel(1, 2), 7);
    }

    private static void fault() {
        is.sentence(5, "The FAULT of a text; NONE. BAD.");
        StringReels x = Answers.told("n10", "9", "a0");
        is.taken("fault", x::fault, 0, 2);
        for (int text = 0; text < 3; text++) {
            is.due("none", x.fault(text), NONE);
            x.type(text, 0);
            is.due("of the byte 0", x.fault(text), new int[] {3, 1, 2}[text]);
        }
    }

    private static void reel() {
        is.sentence(6, "Its sort (what = 0: 0 n, 1 w, 2 d), how LONG (1), the HAND (2) of a REEL. BAD.");
        StringReels x = Answers.told("n17;w56;d90", "", "");
        is.taken("reel", reel -> x.reel(reel, 0), 0, 2);
        is.taken("reel what", what -> x.reel(2, what), 0, 2);
        int[][] want = {{0, 1, 7}, {1, 5, 6}, {2, 9, 0}};
        for (int reel = 0; reel < 3; reel++) {
            for (int what = 0; what < 3; what++) {
                is.due("reel " + reel + " " + what, x.reel(reel, what), want[reel][what]);
            }
        }
        StringReels all = Answers.told(Answers.times(8, "n10"), "", "");
        is.taken("reel of eight", reel -> all.reel(reel, 0), 0, 7);
        StringReels one = Answers.told("n10", "", "");
        is.taken("reel of one", reel -> one.reel(reel, 0), 0, 0);
    }

    private static void hand() {
        is.sentence(7, "How QUICK a HAND (0 to 7) is. BAD.");
        StringReels x = Answers.told("", "19", "");
        is.taken("hand", x::hand, 0, 7);
        is.due("hand 0", x.hand(0), 1);
        is.due("hand 1", x.hand(1), 9);
        is.due("hand 7", x.hand(7), 1);
    }

    private static void flick() {
        is.sentence(8, "The HOUR (what = 0), the REEL (1) of the i-th FLICK (0 to 15); NONE: there is none. BAD.");
        StringReels x = new StringReels();
        is.taken("flick of none", i -> x.flick(i, 0), 0, 15);
        is.taken("flick what of none", what -> x.flick(0, what), 0, 1);
        for (int told = 1; told <= 16; told++) {
            Answers.type(x, 2, told == 1 ? "x7" : ";b3");
            is.due("the last told", x.flick(told - 1, 0), told == 1 ? 23 : 1);
            is.due("the last told", x.flick(told - 1, 1), told == 1 ? 7 : 3);
            is.due("behind it", x.flick(told, 0), told == 16 ? BAD : NONE);
            is.due("behind it", x.flick(told, 1), told == 16 ? BAD : NONE);
        }
        is.taken("flick of sixteen", i -> x.flick(i, 1), 0, 15);
        is.taken("flick what of sixteen", what -> x.flick(15, what), 0, 1);
        is.due("no such what, of none", new StringReels().flick(15, 2), BAD);
    }
}
