import java.util.ArrayList;
import java.util.List;
import java.util.function.Supplier;
import java.util.function.ToLongFunction;

/** Every call that can be refused, with every refusal of it: which one comes first, and that it changes nothing. */
public final class EdgesOfRefusalsTest {
    private static final int BAD = StringReels.BAD, NOT = StringReels.NOT, FULL = StringReels.FULL;
    private static final int NULL = -11, INDEX = -12, CAST = -13, STORE = -14, SIZE = -15;
    private static final int LEAST = Integer.MIN_VALUE, MOST = Integer.MAX_VALUE;
    private static final int[] FAR = {LEAST, LEAST + 1, -2, MOST - 1, MOST};
    private static final Answers is = new Answers();

    public static void main(String[] args) {
        numbers();
        fullOnes();
        emptyOnes();
        findings();
        far();
        is.end();
    }

    /** Three REELS that tangle, and all else as full as it can be; SHEET 2 is LOST, SHEET 3 has no items. */
    private static StringReels full() {
        StringReels x = Answers.told("n40;w91;d21", "22345678", "a0;c0;c1;d2;e2;" + Answers.times(11, "x7"));
        for (int i = 0; i < 8; i++) {
            x.event(i % 2, 2 + i, i);
            x.seen(i, i % 3, x.at(i, i % 3, 0));
        }
        Answers.lay(x, 0, 1, 300, -2, 3);
        Answers.lay(x, 1, 2, 70000, 5);
        x.sheet(3, 0, 0);
        return x;
    }

    private static StringReels empty() {
        return new StringReels();
    }

    /** All that can be told of an object. */
    private static List<Long> state(StringReels x) {
        List<Long> all = new ArrayList<>();
        all.add((long) x.count(8));
        all.add(x.digest());
        for (int s = 0; s < 4; s++) {
            for (int form = 0; form < 3; form++) {
                for (int i = 0; i < 4; i++) {
                    all.add((long) x.get(s, form, i));
                    all.add((long) x.count(8));
                }
            }
        }
        while (x.count(6) > 0) {
            x.back();
            all.add(x.digest());
        }
        for (int text = 0; text < 3; text++) {
            while (x.count(3 + text) > 0) {
                x.undo(text);
                all.add((long) x.fault(text));
            }
        }
        return all;
    }

    private static void refused(String call, Supplier<StringReels> maker, ToLongFunction<StringReels> f, long refusal) {
        finding(call, maker, f, refusal, 0);
    }

    private static void finding(String call, Supplier<StringReels> maker, ToLongFunction<StringReels> f, long due, int number) {
        StringReels x = maker.get();
        is.due(call, f.applyAsLong(x), due);
        List<Long> want = state(maker.get());
        want.set(0, (long) number);
        is.holds(call + " changes nothing else", state(x).equals(want));
    }

    private static void numbers() {
        is.sentence(0, "Refusals, the first that fits, in the order told at each act: BAD -2 (a number not as told, no such thing)");
        List<ToLongFunction<StringReels>> bad = List.of(
            x -> x.type(3, 0), x -> x.type(-1, 0), x -> x.type(0, 256), x -> x.type(0, -1), x -> x.type(1, 256),
            x -> x.wipe(3), x -> x.wipe(-1), x -> x.undo(3), x -> x.undo(-1), x -> x.fault(3), x -> x.fault(-1),
            x -> x.reel(3, 0), x -> x.reel(-1, 0), x -> x.reel(0, 3), x -> x.reel(0, -1), x -> x.hand(8), x -> x.hand(-1),
            x -> x.flick(16, 0), x -> x.flick(-1, 0), x -> x.flick(0, 2), x -> x.flick(0, -1),
            x -> x.event(2, 0, 0), x -> x.event(-1, 0, 0), x -> x.event(0, 24, 0), x -> x.event(0, -1, 0),
            x -> x.event(0, 0, 8), x -> x.event(0, 0, -1), x -> x.read(4), x -> x.read(-1),
            x -> x.at(24, 0, 0), x -> x.at(-1, 0, 0), x -> x.at(0, 3, 0), x -> x.at(0, -1, 0), x -> x.at(0, 0, 4),
            x -> x.at(0, 0, -1), x -> x.home(3, 0), x -> x.home(-1, 0), x -> x.home(0, 2), x -> x.home(0, -1),
            x -> x.knot(2), x -> x.knot(-1), x -> x.soon(3, 0), x -> x.soon(-1, 0), x -> x.soon(0, 2), x -> x.soon(0, -1),
            x -> x.give(3, 0), x -> x.give(-1, 0), x -> x.give(0, 2), x -> x.give(0, -1),
            x -> x.spool(3, 0), x -> x.spool(-1, 0), x -> x.spool(0, 2), x -> x.spool(0, -1), x -> x.spare(2), x -> x.spare(-2),
            x -> x.seen(24, 0, 0), x -> x.seen(-1, 0, 0), x -> x.seen(0, 8, 0), x -> x.seen(0, -1, 0), x -> x.seen(0, 0, 10),
            x -> x.seen(0, 0, -1), x -> x.was(3, 0), x -> x.was(-1, 0), x -> x.was(0, 2), x -> x.was(0, -1),
            x -> x.ask(3), x -> x.ask(-1), x -> x.days(0, 17, 0), x -> x.days(0, -1, 0), x -> x.days(0, 0, 2), x -> x.days(0, 0, -1),
            x -> x.sheet(4, 0, 0), x -> x.sheet(-1, 0, 0), x -> x.sheet(0, 3, 0), x -> x.sheet(0, -1, 0), x -> x.sheet(0, 0, 61),
            x -> x.sheet(4, 0, -1), x -> x.sheet(0, 3, -1), x -> x.lose(4), x -> x.lose(-1),
            x -> x.lay(4, 0, 0, 0), x -> x.lay(-1, 0, 0, 0), x -> x.lay(0, 3, 0, 0), x -> x.lay(0, -1, 0, 0), x -> x.lay(2, 3, 0, 0),
            x -> x.copy(4, 0, 2, 0, 0), x -> x.copy(-1, 0, 0, 0, 0), x -> x.copy(2, 0, 4, 0, 0), x -> x.copy(0, 0, -1, 0, 0),
            x -> x.write(3, 0), x -> x.write(-1, 0), x -> x.write(0, 4), x -> x.write(0, -1), x -> x.write(3, 2),
            x -> x.count(9), x -> x.count(-1));
        for (int i = 0; i < bad.size(); i++) {
            refused("wrong number " + i + ", full", EdgesOfRefusalsTest::full, bad.get(i), BAD);
            refused("wrong number " + i + ", empty", EdgesOfRefusalsTest::empty, bad.get(i), BAD);
        }
        List<ToLongFunction<StringReels>> longs = List.of(x -> x.chance(17, 0, 0, 0), x -> x.chance(-1, 0, 0, 0),
            x -> x.chance(0, 3, 0, 0), x -> x.chance(0, -1, 0, 0), x -> x.chance(0, 0, 24, 0), x -> x.chance(0, 0, -1, 0),
            x -> x.chance(0, 0, 0, 2), x -> x.chance(0, 0, 0, -1));
        for (int i = 0; i < longs.size(); i++) {
            refused("wrong number " + i + " of chance, full", EdgesOfRefusalsTest::full, longs.get(i), Long.MIN_VALUE + 2);
            refused("wrong number " + i + " of chance, empty", EdgesOfRefusalsTest::empty, longs.get(i), Long.MIN_VALUE + 2);
        }
        List<ToLongFunction<StringReels>> gets = List.of(x -> x.get(4, 0, 0), x -> x.get(-1, 0, 0), x -> x.get(0, 3, 0),
            x -> x.get(0, -1, 0), x -> x.get(2, 3, 0));
        for (int i = 0; i < gets.size(); i++) {
            refused("wrong number " + i + " of get, full", EdgesOfRefusalsTest::full, gets.get(i), LEAST);
            refused("wrong number " + i + " of get, empty", EdgesOfRefusalsTest::empty, gets.get(i), LEAST);
        }
    }

    private static void fullOnes() {
        is.sentence(0, "NOT -3 (as told), FULL -4, other FINDINGS. They change nothing");
        refused("type in full hands", EdgesOfRefusalsTest::full, x -> x.type(1, '9'), FULL);
        refused("type in full flicks", EdgesOfRefusalsTest::full, x -> x.type(2, ';'), FULL);
        refused("event", EdgesOfRefusalsTest::full, x -> x.event(0, 0, 0), FULL);
        refused("seen", EdgesOfRefusalsTest::full, x -> x.seen(0, 0, 0), FULL);
        refused("read into no room", EdgesOfRefusalsTest::full, x -> x.read(0), 0);
        refused("read of no items", EdgesOfRefusalsTest::full, x -> x.read(3), 0);
        Supplier<StringReels> reels = () -> Answers.told(Answers.times(8, "w21"), "", "a0;a1;b1");
        refused("type in full reels", reels, x -> x.type(0, ';'), FULL);
    }

    private static void emptyOnes() {
        is.sentence(0, "NOT -3 (as told)");
        for (int text = 0; text < 3; text++) {
            int t = text;
            refused("undo of " + t, EdgesOfRefusalsTest::empty, x -> x.undo(t), NOT);
        }
        refused("back", EdgesOfRefusalsTest::empty, x -> x.back(), NOT);
        Supplier<StringReels> reel = () -> Answers.told("w21", "", "a0");
        refused("undo of hands, with reels", reel, x -> x.undo(1), NOT);
        refused("back, with reels", reel, x -> x.back(), NOT);
    }

    private static void findings() {
        is.sentence(0, "NULL, NOT -3 (as told), FULL -4, other FINDINGS. They change nothing (FINDINGS but count() 8).");
        finding("read of a lost one", EdgesOfRefusalsTest::full, x -> x.read(2), NULL, 1);
        finding("lose of a lost one", EdgesOfRefusalsTest::full, x -> x.lose(2), NULL, 1);
        finding("lay in a lost one", EdgesOfRefusalsTest::full, x -> x.lay(2, 1, 9, 0), NULL, 1);
        finding("get of a lost one", EdgesOfRefusalsTest::full, x -> x.get(2, 1, 9), LEAST, 1);
        finding("copy from a lost one", EdgesOfRefusalsTest::full, x -> x.copy(2, 0, 0, 0, 0), NULL, 1);
        finding("copy to a lost one", EdgesOfRefusalsTest::full, x -> x.copy(0, 0, 2, 0, 0), NULL, 1);
        finding("write to a lost one", EdgesOfRefusalsTest::full, x -> x.write(0, 2), NULL, 1);
        finding("lay of another form", EdgesOfRefusalsTest::full, x -> x.lay(0, 2, 9, 7), CAST, 3);
        finding("get of another form", EdgesOfRefusalsTest::full, x -> x.get(0, 0, 9), LEAST, 3);
        finding("lay of no item", EdgesOfRefusalsTest::full, x -> x.lay(0, 1, 3, 7), INDEX, 2);
        finding("lay of item -1", EdgesOfRefusalsTest::full, x -> x.lay(0, 1, -1, 7), INDEX, 2);
        finding("lay of no item in none", EdgesOfRefusalsTest::full, x -> x.lay(3, 0, 0, 7), INDEX, 2);
        finding("get of no item", EdgesOfRefusalsTest::full, x -> x.get(1, 2, 2), LEAST, 2);
        finding("copy of unlike forms", EdgesOfRefusalsTest::full, x -> x.copy(0, 9, 1, 9, 9), STORE, 4);
        finding("copy of too many", EdgesOfRefusalsTest::full, x -> x.copy(0, 1, 0, 0, 3), INDEX, 2);
        finding("copy to too few", EdgesOfRefusalsTest::full, x -> x.copy(0, 0, 0, 1, 3), INDEX, 2);
        finding("a sheet below 0", EdgesOfRefusalsTest::full, x -> x.sheet(0, 0, -1), SIZE, 5);
        finding("a sheet below 0, of a lost one", EdgesOfRefusalsTest::full, x -> x.sheet(2, 0, LEAST), SIZE, 5);
    }

    /** Numbers far from all that may be, in every place: none throws, none is taken. */
    private static void far() {
        is.sentence(0, "BAD -2 (a number not as told, no such thing)");
        List<Long> want = state(full());
        want.set(0, 2L);
        for (int n : FAR) {
            StringReels x = full();
            int[] got = {x.type(n, n), x.type(0, n), x.wipe(n), x.undo(n), x.fault(n), x.reel(n, n), x.reel(0, n), x.hand(n),
                x.flick(n, n), x.flick(0, n), x.event(n, n, n), x.event(0, 0, n), x.event(1, n, 0), x.read(n), x.at(n, n, n),
                x.at(0, n, 0), x.at(0, 0, n), x.home(n, n), x.home(0, n), x.knot(n), x.soon(n, n), x.soon(0, n),
                x.give(n, n), x.give(0, n), x.spool(n, n), x.spool(0, n), x.spare(n), x.seen(n, n, n), x.seen(0, 0, n),
                x.was(n, n), x.was(0, n), x.ask(n), x.days(n, n, n), x.days(n, 0, n), x.sheet(n, n, n), x.sheet(0, n, 0),
                x.lose(n), x.lay(n, n, n, n), x.lay(0, n, 0, 0), x.copy(n, n, n, n, n), x.copy(0, 0, n, 0, 0), x.write(n, n),
                x.write(0, n), x.count(n)};
            for (int i = 0; i < got.length; i++) {
                is.due("far call " + i + " of " + n, got[i], BAD);
            }
            is.due("far chance of " + n, x.chance(n, n, n, n), Long.MIN_VALUE + 2);
            is.due("far get of " + n, x.get(n, n, n), LEAST);
            is.due("far item of " + n, x.lay(0, 1, n, n), INDEX);
            is.due("far copy of " + n, x.copy(0, n, 0, n, n), INDEX);
            is.holds("far calls of " + n + " change nothing but the finding", state(x).equals(want));
        }
    }
}
