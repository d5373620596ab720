/** A test for each sentence on a boundary of SHEETS and FINDINGS, and of promises 29 to 35. */
public final class EdgesOfSheetsTest {
    private static final int BAD = StringReels.BAD, NULL = -11, INDEX = -12, CAST = -13, STORE = -14, SIZE = -15;
    private static final int LEAST = Integer.MIN_VALUE, MOST = Integer.MAX_VALUE;
    private static final Answers is = new Answers();

    public static void main(String[] args) {
        lostAtFirst();
        zeroAtFirst();
        findings();
        sheet();
        sheetRefused();
        lose();
        layLowestBits();
        layRefused();
        get();
        getRefused();
        copyAsTheyWere();
        copyRefused();
        copyNotSoMany();
        copyOfNone();
        write();
        writeLowestBits();
        writeRefused();
        count();
        is.end();
    }

    private static void lostAtFirst() {
        is.sentence(0, "SHEETS 0 .. 3 are LOST (at first) or a row of a FORM: 0 bytes, 1 shorts, 2 ints");
        StringReels x = new StringReels();
        for (int s = 0; s < 4; s++) {
            is.due("lose", x.lose(s), NULL);
            is.due("lay", x.lay(s, 0, 0, 0), NULL);
            is.due("get", x.get(s, 0, 0), LEAST);
            is.due("read", x.read(s), NULL);
            is.due("copy", x.copy(s, 0, s, 0, 0), NULL);
        }
        for (int s = 0; s < 4; s++) {
            x.sheet(s, s % 3, s + 1);
        }
        for (int s = 0; s < 4; s++) {
            is.due("each is its own", x.lose(s), s + 1);
        }
    }

    private static void zeroAtFirst() {
        is.sentence(0, "of 0 to 60 items (0 at first)");
        StringReels x = new StringReels();
        for (int form = 0; form < 3; form++) {
            is.due("none", x.sheet(form, form, 0), 0);
            is.due("the first of none", x.lay(form, form, 0, 1), INDEX);
            is.due("sixty", x.sheet(form, form, 60), 60);
            for (int i = 0; i < 60; i++) {
                is.due("0 at first", x.get(form, form, i), 0);
            }
            is.due("the last", x.lay(form, form, 59, 1), 1);
            is.due("behind the last", x.lay(form, form, 60, 1), INDEX);
        }
    }

    private static void findings() {
        is.sentence(0, "FINDINGS (answers -10 less the number; they change nothing but count() 8)");
        is.sentence(0, "1 NULL: the SHEET is LOST; 2 INDEX: there is no such item; 3 CAST: it has another FORM; 4 STORE: unlike FORMS; 5 SIZE: below 0.");
        StringReels x = new StringReels();
        is.due("before any", x.count(8), 0);
        x.sheet(0, 0, 1);
        x.sheet(1, 1, 1);
        is.due("a call that is right is none", x.count(8), 0);
        int[] got = {x.lose(3), x.count(8), x.lay(0, 0, 1, 0), x.count(8), x.lay(0, 1, 0, 0), x.count(8),
            x.copy(0, 0, 1, 0, 1), x.count(8), x.sheet(0, 0, -1), x.count(8)};
        for (int number = 1; number <= 5; number++) {
            is.due("finding " + number, got[2 * number - 2], -10 - number);
            is.due("count 8 of " + number, got[2 * number - 1], number);
        }
        x.lay(0, 0, 0, 1);
        x.event(9, 9, 9);
        x.lose(9);
        is.due("the latest stays, by right and BAD calls", x.count(8), 5);
        x.read(3);
        is.due("read tells NULL", x.count(8), 1);
    }

    private static void sheet() {
        is.sentence(29, "A SHEET is a new row of a FORM with n items: n.");
        StringReels x = new StringReels();
        for (int n = 0; n <= 60; n++) {
            is.due("sheet", x.sheet(n % 4, n % 3, n), n);
            is.due("as many", x.lose(n % 4), n);
        }
        Answers.lay(x, 0, 2, 7, 7, 7, 7);
        is.due("a new row in place of one", x.sheet(0, 2, 2), 2);
        is.due("its items are 0", x.get(0, 2, 0), 0);
        is.due("it has but two", x.lay(0, 2, 2, 1), INDEX);
        Answers.lay(x, 0, 2, 7, 7, 7, 7);
        x.lose(0);
        x.sheet(0, 2, 1);
        x.sheet(0, 2, 4);
        for (int i = 0; i < 4; i++) {
            is.due("nothing of an older row comes back", x.get(0, 2, i), 0);
        }
        x.sheet(0, 0, 4);
        is.due("another form", x.lay(0, 2, 0, 0), CAST);
    }

    private static void sheetRefused() {
        is.sentence(29, "BAD: SHEET, FORM, above 60; SIZE.");
        StringReels x = new StringReels();
        is.taken("sheet", s -> x.sheet(s, 0, 1), 0, 3);
        is.taken("form", form -> x.sheet(0, form, 1), 0, 2);
        is.due("61", x.sheet(0, 0, 61), BAD);
        is.due("the most", x.sheet(0, 0, MOST), BAD);
        is.due("-1", x.sheet(0, 0, -1), SIZE);
        is.due("the least", x.sheet(0, 0, LEAST), SIZE);
        is.due("sheet 4, and below 0", x.sheet(4, 0, -1), BAD);
        is.due("sheet -1, and below 0", x.sheet(-1, 0, -1), BAD);
        is.due("form 3, and below 0", x.sheet(0, 3, -1), BAD);
        is.due("form -1, and below 0", x.sheet(0, -1, -1), BAD);
        Answers.lay(x, 0, 1, 5, 6);
        x.sheet(0, 2, -1);
        x.sheet(0, 2, 61);
        is.due("the row is as it was", x.get(0, 1, 1), 6);
        x.lose(0);
        x.sheet(0, 2, -1);
        is.due("a lost one is as it was", x.lose(0), NULL);
    }

    private static void lose() {
        is.sentence(30, "It is LOST: how many items it had. BAD; NULL.");
        StringReels x = new StringReels();
        is.taken("lose", x::lose, 0, 3);
        for (int n : new int[] {0, 1, 60}) {
            x.sheet(3, 2, n);
            is.due("lose", x.lose(3), n);
            is.due("lost", x.lose(3), NULL);
            is.due("lost", x.lay(3, 2, 0, 0), NULL);
        }
        is.due("finding", x.count(8), 1);
    }

    private static void layLowestBits() {
        is.sentence(31, "Item i, treated as of a FORM, becomes v (the lowest bits that it has, with its sign): 1.");
        int[][] due = {{0, 0, 0, 0}, {127, 127, 127, 127}, {128, -128, 128, 128}, {255, -1, 255, 255}, {256, 0, 256, 256},
            {-128, -128, -128, -128}, {-129, 127, -129, -129}, {32767, -1, 32767, 32767}, {32768, 0, -32768, 32768},
            {65535, -1, -1, 65535}, {65536, 0, 0, 65536}, {-32768, 0, -32768, -32768}, {-32769, -1, 32767, -32769},
            {MOST, -1, -1, MOST}, {LEAST, 0, 0, LEAST}, {-1, -1, -1, -1}};
        StringReels x = new StringReels();
        for (int form = 0; form < 3; form++) {
            x.sheet(form, form, due.length);
            for (int i = 0; i < due.length; i++) {
                is.due("lay " + due[i][0], x.lay(form, form, i, due[i][0]), 1);
            }
            for (int i = 0; i < due.length; i++) {
                is.due(due[i][0] + " of form " + form, x.get(form, form, i), due[i][1 + form]);
            }
        }
    }

    private static void layRefused() {
        is.sentence(31, "BAD; NULL; CAST; INDEX.");
        StringReels x = new StringReels();
        for (int s = 0; s < 4; s++) {
            x.sheet(s, 1, 3);
        }
        is.taken("sheet", s -> x.lay(s, 1, 0, 0), 0, 3);
        is.taken("form", form -> x.lay(0, form, 0, 0), 0, 2);
        is.taken("item", i -> x.lay(0, 1, i, 0), 0, 2, INDEX);
        x.lose(3);
        is.due("sheet 4, form 3", x.lay(4, 3, 9, 0), BAD);
        is.due("form 3 of a lost one", x.lay(3, 3, 9, 0), BAD);
        is.due("a lost one, no such item", x.lay(3, 1, 9, 0), NULL);
        is.due("another form, no such item", x.lay(0, 0, 9, 0), CAST);
        is.due("another form, no such item", x.lay(0, 2, -1, 0), CAST);
        is.due("another form", x.lay(0, 2, 0, 7), CAST);
        is.due("no such item", x.lay(0, 1, 3, 7), INDEX);
        for (int i = 0; i < 3; i++) {
            is.due("items are as they were", x.get(0, 1, i), 0);
        }
    }

    private static void get() {
        is.sentence(32, "Item i of it.");
        StringReels x = new StringReels();
        for (int form = 0; form < 3; form++) {
            x.sheet(3, form, 60);
            x.lay(3, form, 0, 5);
            x.lay(3, form, 59, -6);
            is.due("the first", x.get(3, form, 0), 5);
            is.due("the last", x.get(3, form, 59), -6);
            is.due("no finding", x.count(8), 0);
        }
    }

    private static void getRefused() {
        is.sentence(32, "BAD: the least int; so are NULL, CAST, INDEX (count() 8 tells).");
        StringReels x = new StringReels();
        Answers.lay(x, 0, 1, 1, 2, 3);
        int[][] bad = {{-1, 1, 0}, {4, 1, 0}, {LEAST, 1, 0}, {MOST, 1, 0}, {0, -1, 0}, {0, 3, 0}, {0, MOST, 0}, {3, 3, 0}};
        for (int[] call : bad) {
            is.due("BAD", x.get(call[0], call[1], call[2]), LEAST);
            is.due("no finding of BAD", x.count(8), 0);
        }
        is.due("a lost one, no such item", x.get(3, 1, 9), LEAST);
        is.due("NULL", x.count(8), 1);
        is.due("another form, no such item", x.get(0, 2, 9), LEAST);
        is.due("CAST", x.count(8), 3);
        for (int i : new int[] {-1, 3, LEAST, MOST}) {
            x.get(3, 1, 0);
            is.due("no such item", x.get(0, 1, i), LEAST);
            is.due("INDEX", x.count(8), 2);
        }
        is.due("BAD keeps the finding", x.get(4, 1, 0), LEAST);
        is.due("BAD keeps the finding", x.count(8), 2);
        Answers.lay(x, 1, 2, LEAST);
        x.get(3, 0, 0);
        is.due("an item that is the least int", x.get(1, 2, 0), LEAST);
        is.due("is no finding", x.count(8), 1);
    }

    private static StringReels sixOfThree() {
        StringReels x = new StringReels();
        Answers.lay(x, 0, 1, 1, 2, 3, 4, 5, 6);
        Answers.lay(x, 1, 1, 0, 0, 0, 0);
        Answers.lay(x, 2, 2, 9, 9, 9, 9, 9, 9);
        return x;
    }

    private static void items(String name, StringReels x, int s, int form, int... due) {
        for (int i = 0; i < due.length; i++) {
            is.due(name + ": item " + i, x.get(s, form, i), due[i]);
        }
    }

    private static void copyAsTheyWere() {
        is.sentence(33, "n items of SHEET s, from i on, come to SHEET t (perhaps s, as they were), from j on: 1.");
        StringReels x = sixOfThree();
        is.due("the first to the last", x.copy(0, 0, 1, 3, 1), 1);
        items("the first to the last", x, 1, 1, 0, 0, 0, 1);
        is.due("the last to the first", x.copy(0, 5, 1, 0, 1), 1);
        items("the last to the first", x, 1, 1, 6, 0, 0, 1);
        is.due("all of one to the end of another", x.copy(1, 0, 0, 2, 4), 1);
        items("all of one", x, 0, 1, 1, 2, 6, 0, 0, 1);
        x = sixOfThree();
        is.due("up by one", x.copy(0, 0, 0, 1, 5), 1);
        items("up by one", x, 0, 1, 1, 1, 2, 3, 4, 5);
        x = sixOfThree();
        is.due("down by one", x.copy(0, 1, 0, 0, 5), 1);
        items("down by one", x, 0, 1, 2, 3, 4, 5, 6, 6);
        is.due("where they are", x.copy(0, 0, 0, 0, 6), 1);
        items("where they are", x, 0, 1, 2, 3, 4, 5, 6, 6);
        x.sheet(0, 0, 60);
        x.sheet(3, 0, 60);
        x.lay(0, 0, 59, -7);
        is.due("sixty", x.copy(0, 0, 3, 0, 60), 1);
        is.due("the last of sixty", x.get(3, 0, 59), -7);
    }

    private static void copyRefused() {
        is.sentence(33, "BAD: the SHEETS; NULL: s, t; STORE; INDEX: below 0");
        StringReels x = sixOfThree();
        x.sheet(3, 1, 4);
        is.taken("to", t -> x.copy(0, 0, t, 0, 0), 0, 3);
        is.taken("from", s -> x.copy(s, 0, 0, 0, 0), 0, 3);
        x.lose(3);
        is.due("no such one, a lost one", x.copy(4, 0, 3, 0, 0), BAD);
        is.due("a lost one, no such one", x.copy(3, 0, 4, 0, 0), BAD);
        is.due("from a lost one, unlike, below 0", x.copy(3, -1, 2, -1, -1), NULL);
        is.due("to a lost one, unlike, below 0", x.copy(2, -1, 3, -1, -1), NULL);
        is.due("both are lost", x.copy(3, 0, 3, 0, 0), NULL);
        is.due("unlike, below 0", x.copy(0, -1, 2, -1, -1), STORE);
        is.due("unlike, none", x.copy(0, 0, 2, 0, 0), STORE);
        is.due("unlike", x.copy(2, 0, 0, 0, 1), STORE);
        for (int below : new int[] {-1, LEAST}) {
            is.due("i below 0", x.copy(0, below, 1, 0, 1), INDEX);
            is.due("j below 0", x.copy(0, 0, 1, below, 1), INDEX);
            is.due("n below 0", x.copy(0, 0, 1, 0, below), INDEX);
            is.due("i below 0, of none", x.copy(0, below, 1, 0, 0), INDEX);
            is.due("j below 0, of none", x.copy(0, 0, 1, below, 0), INDEX);
            is.due("n below 0, from the end", x.copy(0, 6, 1, 4, below), INDEX);
        }
        items("as they were", x, 0, 1, 1, 2, 3, 4, 5, 6);
        items("as they were", x, 1, 1, 0, 0, 0, 0);
    }

    private static void copyNotSoMany() {
        is.sentence(33, "INDEX: below 0, not so many");
        StringReels x = sixOfThree();
        is.due("from: 7 of 6", x.copy(0, 0, 0, 0, 7), INDEX);
        is.due("from: 6 of 5", x.copy(0, 1, 0, 0, 6), INDEX);
        is.due("from: 1 of 0", x.copy(0, 6, 1, 0, 1), INDEX);
        is.due("to: 5 in 4", x.copy(0, 0, 1, 0, 5), INDEX);
        is.due("to: 4 in 3", x.copy(0, 0, 1, 1, 4), INDEX);
        is.due("to: 1 in 0", x.copy(0, 0, 1, 4, 1), INDEX);
        is.due("sums that wrap", x.copy(0, MOST, 1, 0, MOST), INDEX);
        is.due("sums that wrap", x.copy(0, 0, 1, MOST, MOST), INDEX);
        is.due("sums that wrap", x.copy(0, 1, 1, 1, MOST), INDEX);
        is.due("sums that wrap", x.copy(0, MOST, 1, MOST, 1), INDEX);
        is.due("finding", x.count(8), 2);
        items("as they were", x, 0, 1, 1, 2, 3, 4, 5, 6);
        items("as they were", x, 1, 1, 0, 0, 0, 0);
        is.due("just as many", x.copy(0, 2, 1, 0, 4), 1);
    }

    private static void copyOfNone() {
        is.sentence(33, "(with n 0, too, if i or j is above how many there are)");
        StringReels x = sixOfThree();
        is.due("at both ends", x.copy(0, 6, 1, 4, 0), 1);
        is.due("i above", x.copy(0, 7, 1, 4, 0), INDEX);
        is.due("j above", x.copy(0, 6, 1, 5, 0), INDEX);
        is.due("the most", x.copy(0, MOST, 1, 0, 0), INDEX);
        is.due("the most", x.copy(0, 0, 1, MOST, 0), INDEX);
        x.sheet(0, 1, 0);
        is.due("of an empty one", x.copy(0, 0, 0, 0, 0), 1);
        is.due("of an empty one, above", x.copy(0, 1, 0, 0, 0), INDEX);
        items("as they were", x, 1, 1, 0, 0, 0, 0);
    }

    private static void write() {
        is.sentence(34, "from item 0 on, as many as there are items, 24 at most: how many.");
        StringReels x = Answers.told("n10;n91", "", "u1");
        for (int n : new int[] {0, 1, 23, 24, 25, 60}) {
            x.sheet(0, 2, n);
            for (int i = 0; i < n; i++) {
                x.lay(0, 2, i, 77);
            }
            is.due("write to " + n, x.write(1, 0), Math.min(n, 24));
            for (int i = 0; i < n; i++) {
                is.due("item " + i + " of " + n, x.get(0, 2, i), i < 24 ? Math.max(0, 2 * (i - 19)) : 77);
            }
        }
    }

    private static void writeLowestBits() {
        is.sentence(34, "How DEEP a REEL is behind HOURS 0 on comes to a SHEET (of each the lowest bits that an item has, with its sign)");
        StringReels x = Answers.told("n90", "", "a0");
        for (int form = 0; form < 3; form++) {
            x.sheet(form, form, 6);
            is.due("write", x.write(0, form), 6);
            items("form " + form, x, form, form, 2, 4, 6, 8, 9, 9);
        }
    }

    private static void writeRefused() {
        is.sentence(34, "BAD; NULL.");
        StringReels x = Answers.told("n10;n11", "", "");
        for (int s = 0; s < 4; s++) {
            x.sheet(s, 0, 1);
        }
        is.taken("write of", reel -> x.write(reel, 0), 0, 1);
        is.taken("write to", s -> x.write(0, s), 0, 3);
        x.lose(3);
        is.due("to a lost one", x.write(1, 3), NULL);
        is.due("finding", x.count(8), 1);
        is.due("of no such reel, to a lost one", x.write(2, 3), BAD);
        x.lay(0, 0, 0, 7);
        x.write(2, 0);
        is.due("as it was", x.get(0, 0, 0), 7);
        StringReels none = new StringReels();
        none.sheet(0, 0, 1);
        is.due("of no reels", none.write(0, 0), BAD);
        StringReels all = Answers.told(Answers.times(8, "n10"), "", "");
        all.sheet(0, 0, 1);
        is.taken("write of eight", reel -> all.write(reel, 0), 0, 7);
    }

    private static void count() {
        is.sentence(35, "0 REELS, 1 HANDS told, 2 FLICKS, 3 to 5 bytes of texts, 6 EVENTS, 7 SEEN, 8 the number of the latest FINDING (0 before any). BAD.");
        StringReels x = new StringReels();
        is.taken("count", x::count, 0, 8);
        counts("new", x, 0, 0, 0, 0, 0, 0, 0, 0, 0);
        x = Answers.told(Answers.times(8, "n10"), "98765432", Answers.times(16, "a0"));
        for (int i = 0; i < 8; i++) {
            x.event(0, 0, 0);
            x.seen(0, 0, 0);
        }
        x.sheet(0, 0, -1);
        counts("full", x, 8, 8, 16, 31, 8, 47, 8, 8, 5);
        for (int text = 0; text < 3; text++) {
            x.undo(text);
        }
        x.type(1, '0');
        counts("with faults", x, 0, 0, 0, 30, 8, 46, 8, 8, 5);
    }

    private static void counts(String name, StringReels x, int... due) {
        for (int what = 0; what < due.length; what++) {
            is.due(name + ": count " + what, x.count(what), due[what]);
        }
    }
}
