import java.util.Arrays;
import java.util.NoSuchElementException;

/** The edges that Terms 3 and the promises 36 to 42 name: acts, undone and done again, told on trays. */
public final class ActEdgesTest {
    public static void main(String[] args) {
        add();
        addTo64();
        drop();
        dropOf64();
        dual();
        dualOf64();
        left();
        leftOf64();
        undo();
        undoTwenty();
        again();
        againTillAnotherAct();
        whatIsNoAct();
        performThrows();
        performAdds();
        performDropsAndLefts();
        performUndoes();
        performEnds();
        performOf64();
        performFull();
        performBySort();
        Check.end("ActEdgesTest");
    }

    private static final Class<NoSuchElementException> NO_SUCH = NoSuchElementException.class;
    private static final Class<IllegalArgumentException> ILLEGAL = IllegalArgumentException.class;

    private static NoThrees full(int points) {
        NoThrees x = Check.told("points " + points + ";");
        for (int i = 0; i < 64; i++) {
            x.add(3L << i % (points - 1));
        }
        return x;
    }

    private static void sees(String about, NoThrees x, int points, long... lines) {
        Check.due(about + ": points", points, x.count(0));
        Check.due(about + ": lines", lines.length, x.count(1));
        for (int i = 0; i < lines.length && i < x.count(1); i++) {
            Check.due(about + ": line " + i, lines[i], x.line(i));
        }
    }

    private static void add() {
        NoThrees x = Check.told("points 3;");
        Check.due("Promise 36: the first line", 0, x.add(3));
        Check.due("Promise 36: alike", 1, x.add(3));
        Check.due("Promise 36: all", 2, x.add(7));
        sees("Promise 36: behind the others", x, 3, 3, 3, 7);
        Check.due("Promise 36: near", 6, x.near(0));
        Check.due("Promise 36: through", 4, x.through(2));
        for (long set : new long[] {0, 1, 2, 4, 8, 9, 11, 15, 1L << 63, -1L, 1L << 32 | 3}) {
            Check.thrown("Promise 36: the set " + set, ILLEGAL, () -> x.add(set));
        }
        Check.due("Promise 36: three acts", 3, x.count(3));
        for (long set : new long[] {0, 1, 64, 128, 129, 131, -1L}) {
            Twins.refused("Promise 36: the set " + set, ILLEGAL, y -> y.add(set));
        }
        NoThrees one = Check.told("points 1;");
        Check.thrown("Promise 36: a point alone", ILLEGAL, () -> one.add(1));
        Check.thrown("Promise 36: others than points", ILLEGAL, () -> one.add(3));
        NoThrees all = Check.told("points 64;");
        Check.due("Promise 36: all 64", 0, all.add(-1));
        Check.due("Promise 36: the first and the last", 1, all.add(1L << 63 | 1));
        Check.thrown("Promise 36: the last alone", ILLEGAL, () -> all.add(1L << 63));
        sees("Promise 36: of 64", all, 64, -1, 1L << 63 | 1);
    }

    private static void addTo64() {
        NoThrees x = Check.told("points 4;");
        for (int i = 0; i < 64; i++) {
            Check.due("Promise 36: line " + i, i, x.add(i == 63 ? 12 : 3));
        }
        Check.due("Promise 36: the 64th", 12, x.line(63));
        Check.due("Promise 36: a 65th", -1, x.add(6));
        Check.due("Promise 36: a 65th again", -1, x.add(15));
        Check.due("Promise 36: nothing happens", 64, x.count(1));
        Check.due("Promise 36: nothing happens", 20, x.count(3));
        for (long set : new long[] {0, 1, 16, 17, 19, -1L}) {
            Check.thrown("Promise 36: asked behind what is thrown", ILLEGAL, () -> x.add(set));
        }
        x.drop(0);
        Check.due("Promise 36: the 64th again", 63, x.add(6));
        Twins.idle("Promise 36: nothing happens", -1, y -> {
            Twins.busy(y);
            y.world(0);
            StringBuilder text = new StringBuilder("points 3;");
            for (int i = 0; i < 64; i++) {
                text.append("line 0 1;");
            }
            Check.world(y, text.toString());
            y.drop(5);
            y.add(6);
            y.dual();
            y.undo();
        }, y -> y.add(3));
    }

    private static void drop() {
        NoThrees x = Check.told("points 4;line 0 1;line 1 2;line 2 3;line 0 3;");
        Check.due("Promise 37: one between", 6, x.drop(1));
        sees("Promise 37: those behind it become one less", x, 4, 3, 12, 9);
        Check.due("Promise 37: near", 10, x.near(0));
        Check.due("Promise 37: through", 5, x.through(0));
        Check.due("Promise 37: joined", 1, x.joined(2, 3));
        Check.due("Promise 37: not joined", -1, x.joined(1, 2));
        Check.due("Promise 37: the last", 9, x.drop(2));
        Check.thrown("Promise 37: behind the last", NO_SUCH, () -> x.drop(2));
        Check.due("Promise 37: the first", 3, x.drop(0));
        sees("Promise 37: one is left", x, 4, 12);
        Check.due("Promise 37: the first", 12, x.drop(0));
        Check.thrown("Promise 37: none is left", NO_SUCH, () -> x.drop(0));
        Check.due("Promise 37: points stay", 4, x.count(0));
        Check.due("Promise 37: four acts", 4, x.count(3));
        for (int line : new int[] {-1, 4, 5, 63, 64, Integer.MIN_VALUE, Integer.MAX_VALUE}) {
            Twins.refused("Promise 37: line " + line, NO_SUCH, y -> y.drop(line));
        }
    }

    private static void dropOf64() {
        NoThrees x = full(3);
        Check.thrown("Promise 37: line 64 of 64", NO_SUCH, () -> x.drop(64));
        Check.due("Promise 37: line 63 of 64", 6, x.drop(63));
        Check.due("Promise 37: line 0 of 63", 3, x.drop(0));
        for (int i = 0; i < 62; i++) {
            Check.due("Promise 37: those behind it become one less", i % 2 == 0 ? 6 : 3, x.line(i));
        }
        Check.thrown("Promise 37: line 62 of 62", NO_SUCH, () -> x.drop(62));
        Check.due("Promise 37: line 61 of 62", 3, x.drop(61));
        for (int line : new int[] {0, 1, 61, 62, 63}) {
            NoThrees all = Check.told("points 64;");
            for (int i = 0; i < 64; i++) {
                all.add(1L << i | 1L << (i + 1) % 64);
            }
            all.drop(line);
            for (int i = 0; i < 63; i++) {
                int was = i < line ? i : i + 1;
                Check.due("Promise 37: without " + line + " of 64", 1L << was | 1L << (was + 1) % 64, all.line(i));
            }
            Check.thrown("Promise 37: 63 are left", NO_SUCH, () -> all.line(63));
        }
    }

    private static void dual() {
        NoThrees x = Check.told("points 5;line 0 1 2;line 1 2;line 2 3 0;");
        Check.due("Promise 38: lines are points", 3, x.dual());
        // Through 0 go 0, 2, through 1: 0, 1, through 2: all, through 3: 2 alone, through 4: none.
        sees("Promise 38: those with fewer than two are left out", x, 3, 5, 3, 7);
        Check.due("Promise 38: again", 3, x.dual());
        sees("Promise 38: again", x, 3, 7, 6, 5);
        Check.due("Promise 38: two acts", 2, x.count(3));
        NoThrees none = Check.told("points 64;");
        Check.due("Promise 38: without lines", 0, none.dual());
        sees("Promise 38: without lines", none, 0);
        Check.due("Promise 38: it is an act", 1, none.count(3));
        Check.due("Promise 38: without points", 0, none.dual());
        Check.due("Promise 38: it is an act", 2, none.count(3));
        NoThrees one = Check.told("points 9;line 0 1 2 3 4 5 6 7 8;");
        Check.due("Promise 38: one line", 1, one.dual());
        sees("Promise 38: each point has one line", one, 1);
        NoThrees twice = Check.told("points 2;line 0 1;line 0 1;");
        Check.due("Promise 38: lines alike", 2, twice.dual());
        sees("Promise 38: points alike are lines alike", twice, 2, 3, 3);
    }

    private static void dualOf64() {
        NoThrees x = Check.told("points 64;");
        for (int i = 0; i < 64; i++) {
            x.add(1L << i | 1L << (i + 1) % 64);
        }
        Check.due("Promise 38: 64 lines", 64, x.dual());
        Check.due("Promise 38: 64 points", 64, x.count(1));
        for (int p = 0; p < 64; p++) {
            Check.due("Promise 38: line " + p, 1L << p | 1L << (p + 63) % 64, x.line(p));
        }
        NoThrees two = full(2);
        Check.due("Promise 38: 64 lines alike", 64, two.dual());
        sees("Promise 38: 64 lines alike", two, 64, -1, -1);
    }

    private static void left() {
        NoThrees x = Check.told("points 8;line 0 3;line 1 2 4;line 4 5 3;line 5 6;line 7 1;line 6 7 0 3;line 2 7;");
        // Near to 3 are 0, 4, 5, 6, 7: what stays is 1, 2.
        Check.due("Promise 39: two points", 2, x.left(3));
        sees("Promise 39: lines that still have two", x, 2, 3);
        x.undo();
        // Near to 0 are 3, 6, 7: what stays is 1, 2, 4, 5.
        Check.due("Promise 39: four points", 4, x.left(0));
        sees("Promise 39: numbered anew", x, 4, 7, 12);
        Check.due("Promise 39: an act", 1, x.count(3));
        Check.due("Promise 39: one point", 1, x.left(0));
        sees("Promise 39: no line", x, 1);
        Check.due("Promise 39: no point", 0, x.left(0));
        sees("Promise 39: no point", x, 0);
        Check.due("Promise 39: three acts", 3, x.count(3));
        Check.thrown("Promise 39: no point", NO_SUCH, () -> x.left(0));
        NoThrees none = Check.told("points 3;");
        Check.due("Promise 39: a point on no line", 2, none.left(1));
        NoThrees all = Check.told("points 3;line 0 1 2;");
        Check.due("Promise 39: joined to all", 0, all.left(2));
        sees("Promise 39: joined to all", all, 0);
        for (int p : new int[] {-1, 7, 8, 63, 64, Integer.MIN_VALUE, Integer.MAX_VALUE}) {
            Twins.refused("Promise 39: point " + p, NO_SUCH, y -> y.left(p));
        }
    }

    private static void leftOf64() {
        for (int p : new int[] {0, 1, 31, 32, 62, 63}) {
            NoThrees x = Check.told("points 64;");
            x.add(-1L & ~(1L << p));
            x.add(1L << p | 1L << (p + 1) % 64);
            Check.thrown("Promise 39: point 64 of 64", NO_SUCH, () -> x.left(64));
            Check.due("Promise 39: 62 points", 62, x.left(p));
            sees("Promise 39: about " + p, x, 62, (1L << 62) - 1);
            NoThrees none = Check.told("points 64;");
            none.add(Check.set((p + 1) % 64, (p + 63) % 64));
            Check.due("Promise 39: 63 points", 63, none.left(p));
            int one = (p + 1) % 64;
            int other = (p + 63) % 64;
            sees("Promise 39: about " + p, none, 63, Check.set(one > p ? one - 1 : one, other > p ? other - 1 : other));
        }
    }

    private static void undo() {
        NoThrees x = Check.told("points 4;line 0 1;line 2 3;");
        Check.due("Promise 40: there is none", false, x.undo());
        Check.due("Promise 40: none is undone", 0, x.count(4));
        x.add(15);
        Check.due("Promise 40: a line that was added", true, x.undo());
        sees("Promise 40: a line that was added", x, 4, 3, 12);
        Check.due("Promise 40: near", 2, x.near(0));
        Check.due("Promise 40: there is no other", false, x.undo());
        x.drop(0);
        x.undo();
        sees("Promise 40: a line that was dropped", x, 4, 3, 12);
        x.add(5);
        x.dual();
        x.left(0);
        Check.due("Promise 40: three acts", 3, x.count(3));
        x.undo();
        sees("Promise 40: LEFT", x, 3, 5, 6);
        x.undo();
        sees("Promise 40: DUAL", x, 4, 3, 12, 5);
        Check.due("Promise 40: one is left", 1, x.count(3));
        Check.due("Promise 40: two are undone", 2, x.count(4));
        x.undo();
        sees("Promise 40: all", x, 4, 3, 12);
        Check.due("Promise 40: none", 0, x.count(3));
        Check.due("Promise 40: three are undone", 3, x.count(4));
        Twins.idle("Promise 40: there is none", 0, y -> {
            Twins.busy(y);
            y.undo();
            y.undo();
            y.undo();
        }, y -> y.undo() ? 1 : 0);
    }

    private static void undoTwenty() {
        for (int acts : new int[] {1, 19, 20, 21, 22, 40, 45}) {
            NoThrees x = Check.told("points 9;");
            for (int i = 0; i < acts; i++) {
                x.add(3L << i % 8);
                Check.due("Promise 40: at most 20 after " + (i + 1), Math.min(i + 1, 20), x.count(3));
            }
            int most = Math.min(acts, 20);
            for (int i = 0; i < most; i++) {
                Check.due("Promise 40: " + i + " of " + acts, true, x.undo());
                Check.due("Promise 40: lines", acts - i - 1, x.count(1));
                Check.due("Promise 40: still to be undone", most - i - 1, x.count(3));
                Check.due("Promise 40: to be done again", i + 1, x.count(4));
            }
            Check.due("Promise 40: no more of " + acts, false, x.undo());
            Check.due("Promise 40: lines", acts - most, x.count(1));
            for (int i = 0; i < most; i++) {
                Check.due("Promise 41: " + i + " of " + acts, true, x.again());
                int last = acts - most + i;
                Check.due("Promise 41: lines", last + 1, x.count(1));
                Check.due("Promise 41: the line", 3L << last % 8, x.line(last));
                Check.due("Promise 41: still to be done again", most - i - 1, x.count(4));
                Check.due("Promise 41: to be undone", i + 1, x.count(3));
            }
            Check.due("Promise 41: no more of " + acts, false, x.again());
            Check.due("Promise 41: lines", acts, x.count(1));
        }
    }

    private static void again() {
        NoThrees x = Check.told("points 4;line 0 1;line 2 3;");
        Check.due("Promise 41: there is none", false, x.again());
        x.add(5);
        Check.due("Promise 41: none was undone", false, x.again());
        x.drop(0);
        x.dual();
        x.left(0);
        for (int i = 0; i < 4; i++) {
            x.undo();
        }
        Check.due("Promise 41: a line is added again", true, x.again());
        sees("Promise 41: a line is added again", x, 4, 3, 12, 5);
        Check.due("Promise 41: near", 6, x.near(0));
        x.again();
        sees("Promise 41: a line is dropped again", x, 4, 12, 5);
        x.again();
        sees("Promise 41: DUAL", x, 2, 3);
        x.undo();
        sees("Promise 40: DUAL", x, 4, 12, 5);
        x.again();
        x.again();
        sees("Promise 41: LEFT", x, 0);
        Check.due("Promise 41: there is none", false, x.again());
        Check.due("Promise 41: four acts", 4, x.count(3));
        Twins.idle("Promise 41: there is none", 0, y -> {
            Twins.busy(y);
            y.again();
            y.again();
        }, y -> y.again() ? 1 : 0);
    }

    private static void againTillAnotherAct() {
        Twins.Calls[] others = {x -> x.add(3), x -> x.drop(0), x -> x.dual(), x -> x.left(0)};
        for (Twins.Calls act : others) {
            NoThrees x = Check.told("points 4;line 0 1;line 2 3;");
            x.add(5);
            x.add(6);
            x.undo();
            x.undo();
            x.again();
            Check.due("Promise 41: one can be done again", 1, x.count(4));
            act.make(x);
            Check.due("Promise 41: till another act is done", 0, x.count(4));
            Check.due("Promise 41: till another act is done", false, x.again());
            Check.due("Promise 40: two acts", 2, x.count(3));
            x.undo();
            Check.due("Promise 41: that act can be done again", 1, x.count(4));
            x.undo();
            sees("Promise 40: all undone", x, 4, 3, 12);
        }
        // What world() and restore() do isn't to be undone.
        NoThrees x = Check.told("points 4;");
        x.add(3);
        x.add(3);
        x.undo();
        x.image(0);
        Check.due("Promise 46: an image is no act", 1, x.count(4));
        x.restore(0);
        Check.due("Promise 47: nothing can be undone then", false, x.undo());
        Check.due("Promise 47: nothing can be done again then", false, x.again());
        x.add(3);
        x.undo();
        Check.world(x, "points 2;");
        Check.due("Promise 3: nothing can be undone then", false, x.undo());
        Check.due("Promise 3: nothing can be done again then", false, x.again());
        sees("Promise 3: the world", x, 2);
    }

    /** Calls that throw, or answer that nothing happens, leave what can be done again. */
    private static void whatIsNoAct() {
        Twins.refused("Promise 36: no act", ILLEGAL, y -> y.add(1));
        Twins.refused("Promise 37: no act", NO_SUCH, y -> y.drop(4));
        Twins.refused("Promise 39: no act", NO_SUCH, y -> y.left(7));
        for (long[] told : new long[][] {{0}, {-1}, {-1, 0}, {-1, 7, 0}, {-2}, {-2, 4}, {-4}, {-4, 7}, {-7}, {5}}) {
            NoThrees x = new NoThrees();
            Twins.busy(x);
            x.tray(2, 3, told.length);
            Check.write(x, 2, told);
            Check.due("Promise 42: it can't be", 0, x.perform(2));
            Check.due("Promise 42: it is no act", 3, x.count(3));
            Check.due("Promise 42: what was undone can be done again", 2, x.count(4));
        }
    }

    private static void performThrows() {
        for (int tray : new int[] {-1, 4, 5, -2, Integer.MIN_VALUE, Integer.MAX_VALUE}) {
            Twins.refused("Promise 42: tray " + tray, NO_SUCH, y -> y.perform(tray));
            Check.thrown("Promise 42: tray " + tray + " where all are missing", NO_SUCH, () -> new NoThrees().perform(tray));
        }
        for (int i = 0; i < 4; i++) {
            int tray = i;
            NoThrees x = Check.told("points 2;");
            Check.thrown("Promise 42: missing", IllegalStateException.class, () -> x.perform(tray));
            x.tray(tray, 0, 0);
            Check.due("Promise 42: no numbers", 0, x.perform(tray));
            x.tray(tray, 0, 1);
            Check.due("Promise 42: a 0", 0, x.perform(tray));
            x.write(tray, 0, -3);
            Check.due("Promise 42: one number", 1, x.perform(tray));
            Check.due("Promise 42: one number", 1, x.count(3));
        }
        Twins.refused("Promise 42: missing", IllegalStateException.class, y -> y.perform(2));
    }

    private static final String TEXT = "points 5;line 0 1;line 2 3;";

    /** A row of numbers, done on a world of five points and two lines: how many were used up, and what is seen. */
    private static void performed(int used, int points, long[] lines, int acts, long... numbers) {
        for (int sort = 0; sort < 4; sort++) {
            for (int tray : new int[] {0, 3}) {
                NoThrees x = Check.told(TEXT);
                x.tray(tray, sort, numbers.length);
                Check.write(x, tray, numbers);
                String about = "Promise 42: " + Arrays.toString(numbers);
                Check.due(about, used, x.perform(tray));
                sees(about, x, points, lines);
                Check.due(about + " acts", acts, x.count(3));
            }
        }
    }

    private static long[] lines(long... lines) {
        return lines;
    }

    private static void performAdds() {
        performed(3, 5, lines(3, 12, 17), 1, -1, 0, 4);
        performed(3, 5, lines(3, 12, 17), 1, -1, 4, 0, -1);
        performed(6, 5, lines(3, 12, 31), 1, -1, 0, 1, 2, 3, 4);
        // Told twice they count once.
        performed(5, 5, lines(3, 12, 17), 1, -1, 4, 0, 4, 0);
        performed(0, 5, lines(3, 12), 0, -1, 4, 4, 4);
        performed(0, 5, lines(3, 12), 0, -1, 4);
        performed(0, 5, lines(3, 12), 0, -1);
        // Up to the next number below 0, whatever it is.
        performed(6, 5, lines(3, 12, 3, 6), 2, -1, 0, 1, -1, 1, 2);
        performed(3, 5, lines(3, 12, 3), 1, -1, 0, 1, -9, 1, 2);
        performed(0, 5, lines(3, 12), 0, -1, -1, 0, 1);
        performed(0, 5, lines(3, 12), 0, -1, 0, -1, 0, 1);
        // The last point is one, the next isn't.
        performed(3, 5, lines(3, 12, 24), 1, -1, 3, 4);
        performed(0, 5, lines(3, 12), 0, -1, 3, 5);
        performed(0, 5, lines(3, 12), 0, -1, 3, 4, 5);
        performed(0, 5, lines(3, 12), 0, -1, 127, 3, 4);
    }

    private static void performDropsAndLefts() {
        performed(2, 5, lines(12), 1, -2, 0);
        performed(2, 5, lines(3), 1, -2, 1);
        performed(0, 5, lines(3, 12), 0, -2, 2);
        performed(0, 5, lines(3, 12), 0, -2, -1);
        performed(0, 5, lines(3, 12), 0, -2);
        performed(4, 5, lines(), 2, -2, 0, -2, 0);
        performed(4, 5, lines(), 2, -2, 1, -2, 0, -2, 0);
        performed(2, 5, lines(3), 1, -2, 1, -2, 1);
        // One number alone stands behind -2 and -4.
        performed(2, 5, lines(3), 1, -2, 1, 0);
        performed(2, 4, lines(3, 12), 1, -4, 4);
        performed(2, 4, lines(3, 12), 1, -4, 4, 0);
        performed(2, 3, lines(3), 1, -4, 0);
        performed(0, 5, lines(3, 12), 0, -4, 5);
        performed(0, 5, lines(3, 12), 0, -4, -1);
        performed(0, 5, lines(3, 12), 0, -4, -3);
        performed(0, 5, lines(3, 12), 0, -4);
        performed(6, 0, lines(), 3, -4, 0, -4, 0, -4, 0, -4, 0);
        // DUAL: two points that aren't joined.
        performed(1, 2, lines(), 1, -3);
        performed(2, 0, lines(), 2, -3, -3);
        performed(1, 2, lines(), 1, -3, 0);
    }

    private static void performUndoes() {
        performed(0, 5, lines(3, 12), 0, -5);
        performed(0, 5, lines(3, 12), 0, -6);
        performed(0, 5, lines(3, 12), 0, -5, -3);
        performed(0, 5, lines(3, 12), 0, -6, -3);
        performed(2, 5, lines(3, 12), 0, -3, -5);
        performed(2, 5, lines(3, 12), 0, -3, -5, -5, -3);
        performed(3, 2, lines(), 1, -3, -5, -6);
        performed(3, 2, lines(), 1, -3, -5, -6, -6);
        performed(4, 5, lines(12), 1, -3, -5, -2, 0, -6, -3);
        performed(7, 5, lines(3, 12), 0, -2, 0, -3, -5, -5, -6, -5);
    }

    private static void performEnds() {
        for (long first : new long[] {0, 1, 4, 127, -7, -8, -128}) {
            performed(0, 5, lines(3, 12), 0, first);
            performed(0, 5, lines(3, 12), 0, first, -3);
            performed(1, 2, lines(), 1, -3, first, -3);
        }
    }

    private static void performOf64() {
        NoThrees x = full(64);
        x.drop(63);
        x.drop(62);
        x.tray(0, 0, 10);
        Check.write(x, 0, -1, 0, 63, -1, 62, 1, -1, 0, 2, -3);
        Check.due("Promise 42: no 65th line", 6, x.perform(0));
        Check.due("Promise 42: 64 lines", 64, x.count(1));
        Check.due("Promise 42: the 63rd", 1L << 63 | 1, x.line(62));
        Check.due("Promise 42: the 64th", 1L << 62 | 2, x.line(63));
        x.tray(1, 0, 4);
        Check.write(x, 1, -2, 63, -2, 63);
        Check.due("Promise 42: the line 63", 2, x.perform(1));
        Check.due("Promise 42: 63 lines", 63, x.count(1));
        x.tray(1, 0, 2);
        Check.write(x, 1, -4, 63);
        Check.due("Promise 42: the point 63", 2, x.perform(1));
        x.undo();
        Check.write(x, 1, -4, 64);
        Check.due("Promise 42: no point 64", 0, x.perform(1));
        Check.write(x, 1, -2, 64);
        Check.due("Promise 42: no line 64", 0, x.perform(1));
    }

    private static void performFull() {
        NoThrees x = Check.told("points 64;");
        x.tray(0, 1, 40);
        x.write(0, 0, -1);
        for (int i = 1; i < 40; i++) {
            x.write(0, i, i);
        }
        Check.due("Promise 42: a line of 39", 40, x.perform(0));
        Check.due("Promise 42: a line of 39", (1L << 40) - 2, x.line(0));
        for (int i = 0; i < 40; i++) {
            x.write(0, i, i % 4 == 0 ? -1 : i % 4 == 3 ? -3 : i % 4);
        }
        Check.due("Promise 42: numbers of the tray", 4, x.perform(0));
        for (int i = 0; i < 40; i++) {
            x.write(0, i, i < 21 ? -3 : -5);
        }
        Check.world(x, "points 2;line 0 1;line 0 1;");
        Check.due("Promise 42: 21 acts and 19 of them undone", 40, x.perform(0));
        Check.due("Promise 40: the 21st is the last of twenty", 1, x.count(3));
        Check.due("Promise 41: 19 can be done again", 19, x.count(4));
        for (int i = 0; i < 40; i++) {
            x.write(0, i, i < 19 ? -3 : -5);
        }
        Check.world(x, "points 2;line 0 1;line 0 1;");
        Check.due("Promise 42: 19 acts, and all of them undone", 38, x.perform(0));
        for (int i = 0; i < 40; i++) {
            x.write(0, i, -6);
        }
        Check.due("Promise 42: all of them done again", 19, x.perform(0));
        Check.due("Promise 42: all of them done again", 19, x.count(3));
    }

    private static void performBySort() {
        long[] acts = {-3 & 255, -3 & 65535, -3 & (1L << 32) - 1, -3};
        for (int sort = 0; sort < 4; sort++) {
            for (int i = 0; i < 4; i++) {
                NoThrees x = Check.told(TEXT);
                x.tray(0, sort, 1);
                x.write(0, 0, acts[i]);
                Check.due("Promise 42: sort " + sort + " of " + acts[i], i >= sort ? 1 : 0, x.perform(0));
            }
        }
        for (long far : new long[] {1L << 32, 1L << 62, Long.MAX_VALUE, 64, 1L << 32 | 1}) {
            NoThrees x = Check.told("points 64;line 0 1;line 0 1;");
            x.tray(0, 3, 3);
            Check.write(x, 0, -1, 5, far);
            Check.due("Promise 42: no point " + far, 0, x.perform(0));
            Check.write(x, 0, -4, far);
            Check.due("Promise 42: no point " + far, 0, x.perform(0));
            Check.write(x, 0, -2, far);
            Check.due("Promise 42: no line " + far, 0, x.perform(0));
            Check.due("Promise 42: no act", 0, x.count(3));
        }
        for (long far : new long[] {Long.MIN_VALUE, -1L << 32, -3L ^ 1L << 40}) {
            NoThrees x = Check.told(TEXT);
            x.tray(0, 3, 2);
            Check.write(x, 0, far, -3);
            Check.due("Promise 42: no act " + far, 0, x.perform(0));
        }
    }
}
