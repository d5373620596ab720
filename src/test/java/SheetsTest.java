/** Promises 29 to 35: SHEETS and count(). */
public final class SheetsTest {
    private static final Answers is = new Answers();
    private static final int LEAST = Integer.MIN_VALUE;

    public static void main(String[] args) {
        sheets();
        items();
        orders();
        copies();
        copyRefusals();
        writes();
        counts();
        is.end();
    }

    private static void sheets() {
        StringReels x = new StringReels();
        is.due("sheet of 60", x.sheet(3, 2, 60), 60);
        is.due("lose", x.lose(3), 60);
        is.due("lose again", x.lose(3), -11);
        is.due("sheet of none", x.sheet(0, 0, 0), 0);
        is.due("it is not lost", x.lose(0), 0);
        is.due("sheet of 61", x.sheet(0, 0, 61), StringReels.BAD);
        is.due("sheet -1", x.sheet(-1, 0, 0), StringReels.BAD);
        is.due("sheet 4", x.sheet(4, 0, 0), StringReels.BAD);
        is.due("form -1", x.sheet(0, -1, 0), StringReels.BAD);
        is.due("form 3, ahead of the size", x.sheet(0, 3, -1), StringReels.BAD);
        is.due("sheet of 5", x.sheet(0, 2, 5), 5);
        is.due("lay", x.lay(0, 2, 4, 77), 1);
        is.due("size -1", x.sheet(0, 0, -1), -15);
        is.due("it changes nothing", x.get(0, 2, 4), 77);
        is.due("finding 5", x.count(8), 5);
        is.due("the least size", x.sheet(0, 0, LEAST), -15);
        is.due("a new row", x.sheet(0, 2, 5), 5);
        is.due("its items are 0", x.get(0, 2, 4), 0);
        is.due("lose -1", x.lose(-1), StringReels.BAD);
        is.due("lose 4", x.lose(4), StringReels.BAD);
    }

    private static void items() {
        StringReels x = new StringReels();
        int[][] laid = {{127, 127, 127, 127}, {128, -128, 128, 128}, {255, -1, 255, 255}, {-129, 127, -129, -129},
            {32768, 0, -32768, 32768}, {65535, -1, -1, 65535}, {LEAST, 0, 0, LEAST}, {Integer.MAX_VALUE, -1, -1, Integer.MAX_VALUE}};
        for (int form = 0; form < 3; form++) {
            x.sheet(form, form, 9);
            for (int i = 0; i < laid.length; i++) {
                is.due("lay", x.lay(form, form, i, laid[i][0]), 1);
            }
            for (int i = 0; i < laid.length; i++) {
                is.due("get of form " + form + ", item " + i, x.get(form, form, i), laid[i][1 + form]);
            }
            is.due("one not laid", x.get(form, form, 8), 0);
        }
    }

    private static void orders() {
        StringReels x = new StringReels();
        is.due("lay in a lost one", x.lay(0, 0, -1, 0), -11);
        is.due("lay in sheet 4", x.lay(4, 0, 0, 0), StringReels.BAD);
        is.due("lay of form 3", x.lay(0, 3, 0, 0), StringReels.BAD);
        is.due("get in a lost one", x.get(1, 0, 0), LEAST);
        is.due("finding 1", x.count(8), 1);
        x.sheet(0, 1, 3);
        is.due("cast ahead of index", x.lay(0, 2, 3, 0), -13);
        is.due("finding 3", x.count(8), 3);
        is.due("bad changes no finding", x.get(0, 3, 9), LEAST);
        is.due("bad changes no finding", x.get(-1, 0, 9), LEAST);
        is.due("bad changes no finding", x.count(8), 3);
        is.due("lay at 3", x.lay(0, 1, 3, 0), -12);
        is.due("lay at -1", x.lay(0, 1, -1, 0), -12);
        is.due("finding 2", x.count(8), 2);
        is.due("get cast", x.get(0, 0, 9), LEAST);
        is.due("finding 3", x.count(8), 3);
        is.due("get at 3", x.get(0, 1, 3), LEAST);
        is.due("finding 2", x.count(8), 2);
        is.due("get at the least", x.get(0, 1, LEAST), LEAST);
        is.due("a right call keeps the finding", x.lay(0, 1, 2, 5), 1);
        is.due("a right call keeps the finding", x.count(8), 2);
    }

    private static StringReels laid() {
        StringReels x = new StringReels();
        x.sheet(0, 1, 6);
        x.sheet(1, 1, 4);
        x.sheet(2, 2, 6);
        for (int i = 0; i < 6; i++) {
            x.lay(0, 1, i, i + 1);
        }
        return x;
    }

    private static void row(String name, StringReels x, int s, int form, int... want) {
        for (int i = 0; i < want.length; i++) {
            is.due(name + ": item " + i, x.get(s, form, i), want[i]);
        }
    }

    private static void copies() {
        StringReels x = laid();
        is.due("copy", x.copy(0, 2, 1, 1, 3), 1);
        row("copy", x, 1, 1, 0, 3, 4, 5);
        row("from", x, 0, 1, 1, 2, 3, 4, 5, 6);
        is.due("copy upwards", x.copy(0, 0, 0, 1, 5), 1);
        row("as they were", x, 0, 1, 1, 1, 2, 3, 4, 5);
        is.due("copy downwards", x.copy(0, 2, 0, 0, 4), 1);
        row("as they were", x, 0, 1, 2, 3, 4, 5, 4, 5);
        is.due("copy of none at the ends", x.copy(0, 6, 1, 4, 0), 1);
        is.due("copy of all", x.copy(1, 0, 0, 2, 4), 1);
        row("copy of all", x, 0, 1, 2, 3, 0, 3, 4, 5);
    }

    private static void copyRefusals() {
        StringReels x = laid();
        is.due("from sheet -1", x.copy(-1, 0, 0, 0, 0), StringReels.BAD);
        is.due("to sheet 4, ahead of null", x.copy(3, 0, 4, 0, 0), StringReels.BAD);
        is.due("from a lost one", x.copy(3, 0, 2, 0, 0), -11);
        is.due("to a lost one", x.copy(0, 9, 3, 0, 0), -11);
        is.due("unlike forms, ahead of index", x.copy(0, 9, 2, 9, 9), -14);
        is.due("finding 4", x.count(8), 4);
        is.due("n -1", x.copy(0, 0, 1, 0, -1), -12);
        is.due("i -1", x.copy(0, -1, 1, 0, 1), -12);
        is.due("j -1", x.copy(0, 0, 1, -1, 1), -12);
        is.due("not so many from", x.copy(1, 1, 0, 0, 4), -12);
        is.due("not so many to", x.copy(0, 0, 1, 1, 4), -12);
        is.due("i above, n 0", x.copy(0, 7, 1, 0, 0), -12);
        is.due("j above, n 0", x.copy(0, 0, 1, 5, 0), -12);
        int most = Integer.MAX_VALUE;
        is.due("the most", x.copy(0, most, 0, 0, most), -12);
        is.due("the most", x.copy(0, 1, 0, 1, most), -12);
        is.due("the least", x.copy(0, LEAST, 0, 0, LEAST), -12);
        is.due("finding 2", x.count(8), 2);
        row("nothing changed", x, 0, 1, 1, 2, 3, 4, 5, 6);
        row("nothing changed", x, 1, 1, 0, 0, 0, 0);
    }

    private static void writes() {
        StringReels x = Answers.told("n50;n91", "", "b0;a1");
        is.due("write to a lost one", x.write(0, 0), -11);
        is.due("write of reel 2", x.write(2, 0), StringReels.BAD);
        is.due("write of reel -1", x.write(-1, 0), StringReels.BAD);
        is.due("write to sheet 4", x.write(0, 4), StringReels.BAD);
        is.due("write to sheet -1", x.write(0, -1), StringReels.BAD);
        for (int form = 0; form < 3; form++) {
            x.sheet(form, form, 6);
            is.due("write", x.write(0, form), 6);
            row("write of form " + form, x, form, form, 0, 2, 4, 5, 5, 5);
        }
        is.due("write of reel 1", x.write(1, 2), 6);
        row("write of reel 1", x, 2, 2, 2, 4, 6, 8, 9, 9);
        x.sheet(3, 0, 60);
        x.lay(3, 0, 24, 99);
        is.due("24 at most", x.write(1, 3), 24);
        is.due("the last hour", x.get(3, 0, 23), 9);
        is.due("behind it", x.get(3, 0, 24), 99);
        x.sheet(3, 0, 0);
        is.due("write of none", x.write(1, 3), 0);
    }

    private static void counts() {
        StringReels x = Answers.told("n50;n91", "123", "b0;a1;c");
        x.event(0, 0, 0);
        x.seen(0, 0, 0);
        x.seen(0, 0, 0);
        int[] want = {2, 3, 0, 7, 3, 7, 1, 2, 0};
        for (int what = 0; what <= 8; what++) {
            is.due("count " + what, x.count(what), want[what]);
        }
        is.due("count -1", x.count(-1), StringReels.BAD);
        is.due("count 9", x.count(9), StringReels.BAD);
    }
}
