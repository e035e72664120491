import java.util.NoSuchElementException;

/** The edges that Terms 3 and the promises 43 to 48 name: trays, images, counts; and calls that change nothing. */
public final class TrayEdgesTest {
    public static void main(String[] args) {
        tray();
        trayThrows();
        trayAnew();
        write();
        writeCut();
        writeThrows();
        pour();
        pourCut();
        pourThrows();
        image();
        imageThrows();
        restore();
        restoreThrows();
        count();
        countEdges();
        Check.end("TrayEdgesTest");
    }

    private static final Class<NoSuchElementException> NO_SUCH = NoSuchElementException.class;
    private static final Class<IllegalArgumentException> ILLEGAL = IllegalArgumentException.class;
    private static final Class<IllegalStateException> MISSING = IllegalStateException.class;
    private static final Class<IndexOutOfBoundsException> NO_PLACE = IndexOutOfBoundsException.class;
    private static final int[] FAR_OUT = {-2, 5, 64, 256, Integer.MIN_VALUE, Integer.MAX_VALUE};

    private static void tray() {
        for (int i = 0; i < 4; i++) {
            int tray = i;
            for (int sort = 0; sort < 4; sort++) {
                for (int many : new int[] {0, 1, 2, 39, 40}) {
                    NoThrees x = new NoThrees();
                    x.tray(tray, sort, many);
                    if (many > 0) {
                        Check.due("Promise 43: the first place", 7, x.write(tray, 0, 7));
                        Check.due("Promise 43: the last place", 9, x.write(tray, many - 1, 9));
                    }
                    Check.thrown("Promise 43: no place -1 of " + many, NO_PLACE, () -> x.write(tray, -1, 0));
                    Check.thrown("Promise 43: no place " + many, NO_PLACE, () -> x.write(tray, many, 0));
                    for (int other = 0; other < 4; other++) {
                        int missing = other;
                        if (other != i) {
                            Check.thrown("Promise 43: the others are missing", MISSING, () -> x.write(missing, 0, 0));
                        }
                    }
                }
            }
        }
    }

    private static void trayThrows() {
        for (int tray : new int[] {-1, 4}) {
            Twins.refused("Promise 43: tray " + tray, NO_SUCH, y -> y.tray(tray, 0, 1));
            Twins.refused("Promise 43: tray " + tray + " comes ahead of no sort", NO_SUCH, y -> y.tray(tray, 4, 1));
            Twins.refused("Promise 43: tray " + tray + " comes ahead of not so many", NO_SUCH, y -> y.tray(tray, 0, 41));
        }
        for (int t : new int[] {0, 2}) {
            for (int sort : new int[] {-1, 4}) {
                Twins.refused("Promise 43: sort " + sort, ILLEGAL, y -> y.tray(t, sort, 1));
            }
            for (int many : new int[] {-1, 41}) {
                Twins.refused("Promise 43: many " + many, ILLEGAL, y -> y.tray(t, 0, many));
            }
        }
        NoThrees x = new NoThrees();
        for (int far : FAR_OUT) {
            Check.thrown("Promise 43: tray " + far, NO_SUCH, () -> x.tray(far, 3, 40));
            Check.thrown("Promise 43: sort " + far, ILLEGAL, () -> x.tray(3, far, 40));
            int many = far == 5 ? 42 : far;
            Check.thrown("Promise 43: many " + many, ILLEGAL, () -> x.tray(3, 3, many));
        }
        for (int i = 0; i < 4; i++) {
            int tray = i;
            Check.thrown("Promise 43: it is still missing", MISSING, () -> x.perform(tray));
        }
    }

    /** A row of 0s: no number of the row before it stays. */
    private static void trayAnew() {
        for (int sort = 0; sort < 4; sort++) {
            NoThrees x = Check.told("points 2;");
            x.tray(1, sort, 3);
            Check.write(x, 1, -1, 1, -3);
            x.tray(1, sort, 3);
            // Numbers 0, 1, 0: no act.
            x.write(1, 1, 1);
            Check.due("Promise 43: the first is 0", 0, x.perform(1));
            x.write(1, 0, -1);
            Check.due("Promise 43: the last is 0", 3, x.perform(1));
            Check.due("Promise 43: the line", 3, x.line(0));
            x.tray(1, sort, 2);
            Check.thrown("Promise 43: fewer places", NO_PLACE, () -> x.write(1, 2, 0));
            x.tray(1, sort, 40);
            x.write(1, 0, -1);
            x.write(1, 1, 1);
            Check.due("Promise 43: 38 times 0", 40, x.perform(1));
            x.tray(1, sort == 0 ? 3 : 0, 1);
            Check.due("Promise 43: another sort", sort == 0 ? 300 : 44, x.write(1, 0, 300));
        }
        // Acts and worlds leave trays.
        NoThrees x = Check.told("points 2;line 0 1;");
        x.tray(0, 0, 1);
        x.write(0, 0, -3);
        x.drop(0);
        x.undo();
        Check.world(x, "points 3;line 0 1;line 1 2;");
        x.image(0);
        x.restore(0);
        Check.due("Promise 43: the row is as it was", 1, x.perform(0));
        Check.due("Promise 43: the row is as it was", 2, x.count(0));
    }

    private static void write() {
        NoThrees x = Check.told("points 3;");
        x.tray(2, 0, 4);
        for (int place = 3; place >= 0; place--) {
            Check.due("Promise 44: place " + place, place == 0 ? -1 : place % 3, x.write(2, place, place == 0 ? -1 : place % 3));
        }
        Check.due("Promise 44: each at its place", 4, x.perform(2));
        Check.due("Promise 44: each at its place", 7, x.line(0));
        x.write(2, 3, 2);
        x.write(2, 2, 1);
        Check.due("Promise 44: another number", 4, x.perform(2));
        Check.due("Promise 44: another number", 6, x.line(1));
        Check.due("Promise 44: no act", 2, x.count(3));
    }

    private static void writeCut() {
        int[] bits = {8, 16, 32, 64};
        for (int sort = 0; sort < 4; sort++) {
            NoThrees x = new NoThrees();
            x.tray(0, sort, 3);
            long most = (1L << bits[sort] - 1) - 1;
            long least = -1L << bits[sort] - 1;
            Check.due("Promise 44: the most of " + bits[sort], most, x.write(0, 0, most));
            Check.due("Promise 44: the least of " + bits[sort], least, x.write(0, 1, least));
            Check.due("Promise 44: the most and one", least, x.write(0, 0, most + 1));
            Check.due("Promise 44: the least less one", most, x.write(0, 1, least - 1));
            Check.due("Promise 44: 0", 0, x.write(0, 2, 0));
            Check.due("Promise 44: -1", -1, x.write(0, 2, -1));
            Check.due("Promise 44: all bits", -1, x.write(0, 2, sort == 3 ? -1 : (1L << bits[sort]) - 1));
            if (sort < 3) {
                Check.due("Promise 44: the bit behind", 0, x.write(0, 2, 1L << bits[sort]));
                Check.due("Promise 44: the bit behind and one", 1, x.write(0, 2, (1L << bits[sort]) + 1));
                Check.due("Promise 44: the least of 64", 0, x.write(0, 2, Long.MIN_VALUE));
                Check.due("Promise 44: the most of 64", -1, x.write(0, 2, Long.MAX_VALUE));
            }
        }
    }

    private static void writeThrows() {
        for (int tray : new int[] {-1, 4}) {
            Twins.refused("Promise 44: tray " + tray, NO_SUCH, y -> y.write(tray, 0, 1));
            Twins.refused("Promise 44: tray " + tray + " comes first", NO_SUCH, y -> y.write(tray, 40, 1));
        }
        Twins.refused("Promise 44: missing", MISSING, y -> y.write(2, 0, 1));
        Twins.refused("Promise 44: missing comes ahead of no place", MISSING, y -> y.write(2, -1, 1));
        Twins.refused("Promise 44: missing comes ahead of no place", MISSING, y -> y.write(2, 40, 1));
        int[] sizes = {6, 3, 0, 40};
        for (int tray : new int[] {0, 1, 3}) {
            for (int place : new int[] {-1, sizes[tray], 41, -40, Integer.MIN_VALUE, Integer.MAX_VALUE}) {
                Twins.refused("Promise 44: place " + place + " of " + tray, NO_PLACE, y -> y.write(tray, place, 1));
            }
        }
        NoThrees x = new NoThrees();
        for (int far : FAR_OUT) {
            Check.thrown("Promise 44: tray " + far, NO_SUCH, () -> x.write(far, 0, 0));
        }
        x.tray(0, 3, 0);
        Check.thrown("Promise 44: no place of none", NO_PLACE, () -> x.write(0, 0, 0));
        Check.thrown("Promise 44: no place of none", NO_PLACE, () -> x.write(0, -1, 0));
    }

    private static void pour() {
        // Lines 0 1, 0 2, .. as numbers 3, 5, 9, 17, 33: written behind -1 they are no points, but 3 and 5 are.
        NoThrees x = Check.told("points 6;line 0 1;line 0 2;line 0 3;line 0 4;line 0 5;");
        for (int many : new int[] {0, 1, 4, 5, 6, 40}) {
            x.tray(1, 0, many);
            Check.due("Promise 45: five lines, places " + many, Math.min(many, 5), x.pour(1));
        }
        Check.due("Promise 45: no act", 0, x.count(3));
        x.tray(1, 0, 2);
        x.pour(1);
        x.write(1, 0, -1);
        Check.due("Promise 45: a 5 is in the second place", 0, x.perform(1));
        NoThrees y = Check.told("points 9;line 0 1;line 0 2;");
        y.tray(1, 2, 4);
        Check.write(y, 1, 8, 8, 8, 7);
        Check.due("Promise 45: two lines", 2, y.pour(1));
        y.write(1, 0, -1);
        Check.due("Promise 45: what is behind them stays", 4, y.perform(1));
        Check.due("Promise 45: 5, 8, 7", Check.set(5, 7, 8), y.line(2));
        NoThrees none = Check.told("points 9;");
        none.tray(0, 0, 2);
        Check.write(none, 0, -3, -5);
        Check.due("Promise 45: no lines", 0, none.pour(0));
        Check.due("Promise 45: nothing has come", 2, none.perform(0));
        NoThrees first = Check.told("points 9;line 0 1;line 0 2;line 2 1;");
        first.tray(0, 0, 4);
        first.pour(0);
        first.write(0, 0, -1);
        first.write(0, 3, 1);
        // 3, 5, 6 from the first place on: the first is written over.
        Check.due("Promise 45: by numbers", 4, first.perform(0));
        Check.due("Promise 45: by numbers", Check.set(5, 6, 1), first.line(3));
        StringBuilder text = new StringBuilder("points 9;");
        for (int i = 0; i < 64; i++) {
            text.append("line 0 1;");
        }
        NoThrees full = Check.told(text.toString());
        for (int many = 39; many <= 40; many++) {
            full.tray(2, 3, many);
            Check.due("Promise 45: 64 lines", many, full.pour(2));
        }
    }

    private static void pourCut() {
        // The line as a number, by its bits: cut to each sort it is an act, -3, or none.
        long[] sets = {0xFD, 0xFFFD, 0xFFFFFFFDL, -3, 0x1FD, 0x1FFFD, 0x1FFFFFFFDL};
        int[][] isAct = {{1, 0, 0, 0}, {1, 1, 0, 0}, {1, 1, 1, 0}, {1, 1, 1, 1}, {1, 0, 0, 0}, {1, 1, 0, 0}, {1, 1, 1, 0}};
        for (int i = 0; i < sets.length; i++) {
            for (int sort = 0; sort < 4; sort++) {
                NoThrees x = Check.told("points 64;");
                x.add(sets[i]);
                x.tray(3, sort, 1);
                Check.due("Promise 45: one line", 1, x.pour(3));
                Check.due("Promise 45: " + sets[i] + " cut to sort " + sort, isAct[i][sort], x.perform(3));
            }
        }
    }

    private static void pourThrows() {
        for (int tray : new int[] {-1, 4}) {
            Twins.refused("Promise 45: tray " + tray, NO_SUCH, y -> y.pour(tray));
        }
        Twins.refused("Promise 45: missing", MISSING, y -> y.pour(2));
        for (int far : FAR_OUT) {
            Check.thrown("Promise 45: tray " + far, NO_SUCH, () -> new NoThrees().pour(far));
        }
        NoThrees x = new NoThrees();
        Check.thrown("Promise 45: missing, without lines", MISSING, () -> x.pour(0));
        x.tray(0, 0, 0);
        Check.due("Promise 45: no places", 0, x.pour(0));
    }

    private static void sees(String about, NoThrees x, int points, long... lines) {
        Check.due(about + ": points", points, x.count(0));
        Check.due(about + ": lines", lines.length, x.count(1));
        for (int i = 0; i < lines.length && i < x.count(1); i++) {
            Check.due(about + ": line " + i, lines[i], x.line(i));
        }
    }

    private static void image() {
        for (int i = 0; i < 3; i++) {
            NoThrees x = new NoThrees();
            x.image(i);
            Check.world(x, "points 4;line 0 1;line 1 2;");
            x.restore(i);
            sees("Promise 46: a world without points", x, 0);
            Check.world(x, "points 4;line 0 1;line 1 2;");
            x.image(i);
            x.add(15);
            x.drop(0);
            x.dual();
            for (int turn = 0; turn < 2; turn++) {
                x.restore(i);
                sees("Promise 46: the world as it was", x, 4, 3, 6);
                x.drop(0);
                x.left(0);
            }
            Check.world(x, "points 64;line 63 0;");
            x.image(i);
            x.dual();
            x.restore(i);
            sees("Promise 46: made anew", x, 64, 1L << 63 | 1);
            Check.due("Promise 46: near", 1L << 63, x.near(0));
            for (int other = 0; other < 3; other++) {
                int image = other;
                if (other != i) {
                    Check.thrown("Promise 46: the others aren't made", MISSING, () -> x.restore(image));
                }
            }
        }
        NoThrees x = Check.told("points 3;");
        for (int i = 0; i < 3; i++) {
            x.image(i);
            x.add(3L << i % 2);
        }
        for (int i = 0; i < 3; i++) {
            x.restore(i);
            Check.due("Promise 46: each of its own", i, x.count(1));
        }
        imageOf64();
        NoThrees y = Check.told("points 3;");
        y.add(3);
        y.add(6);
        y.undo();
        y.image(1);
        Check.due("Promise 46: what can be undone stays", 1, y.count(3));
        Check.due("Promise 46: what can be done again stays", 1, y.count(4));
        Check.due("Promise 41: again", true, y.again());
        y.undo();
        y.undo();
        y.restore(1);
        sees("Promise 46: as it was, and not as it was undone", y, 3, 3);
    }

    private static void imageOf64() {
        NoThrees x = Check.told("points 64;");
        long[] lines = new long[64];
        for (int i = 0; i < 64; i++) {
            lines[i] = 1L << i | 1L << (i + 1) % 64;
            x.add(lines[i]);
        }
        x.image(1);
        x.left(0);
        x.world(0);
        x.restore(1);
        sees("Promise 46: 64 points and 64 lines", x, 64, lines);
        Check.due("Promise 46: 64 points and 64 lines", 1L << 62 | 1L << 63, x.through(63));
        Check.due("Promise 47: 64 points and 64 lines", -1, x.add(3));
        Check.due("Promise 47: nothing can be undone", false, x.undo());
    }

    private static void imageThrows() {
        for (int i : new int[] {-1, 3, 4, -2, Integer.MIN_VALUE, Integer.MAX_VALUE}) {
            Twins.refused("Promise 46: image " + i, NO_SUCH, y -> y.image(i));
            Check.thrown("Promise 46: image " + i, NO_SUCH, () -> new NoThrees().image(i));
        }
    }

    private static void restore() {
        NoThrees x = Check.told("points 4;line 0 1;");
        x.image(0);
        x.add(6);
        x.add(12);
        x.undo();
        x.restore(0);
        sees("Promise 47: as in the image", x, 4, 3);
        Check.due("Promise 47: nothing can be undone", 0, x.count(3));
        Check.due("Promise 47: nothing can be done again", 0, x.count(4));
        Check.due("Promise 47: undo", false, x.undo());
        Check.due("Promise 47: again", false, x.again());
        sees("Promise 47: as in the image", x, 4, 3);
        Check.due("Promise 47: near", 2, x.near(0));
        Check.due("Promise 47: through", 1, x.through(1));
        x.add(9);
        Check.due("Promise 47: an act behind it", 1, x.count(3));
        x.undo();
        sees("Promise 47: undone as far as the image", x, 4, 3);
        Check.due("Promise 47: no further", false, x.undo());
        Check.world(x, "points 4;line 0 4;");
        Check.feed(x, "duads;");
        x.restore(0);
        Check.due("Promise 4: the fault stays", 3, x.fault(0));
        Check.due("Promise 2: the tape stays", 20, x.count(2));
        NoThrees y = new NoThrees();
        Twins.busy(y);
        y.restore(2);
        sees("Promise 47: as in the image", y, 7, 7, 12, 112, 65);
        Check.due("Promise 43: trays stay", 6, y.perform(0));
        y.restore(0);
        sees("Promise 47: as in the other", y, 7, 7, 12, 112);
        Check.due("Promise 3: the tape stays", 6, y.world(20));
    }

    private static void restoreThrows() {
        for (int i : new int[] {-1, 3, 4, -2, Integer.MIN_VALUE, Integer.MAX_VALUE}) {
            Twins.refused("Promise 47: image " + i, NO_SUCH, y -> y.restore(i));
            Check.thrown("Promise 47: image " + i + " where none is made", NO_SUCH, () -> new NoThrees().restore(i));
        }
        Twins.refused("Promise 47: none was made", MISSING, y -> y.restore(1));
        for (int i = 0; i < 3; i++) {
            int image = i;
            Check.thrown("Promise 47: none was made", MISSING, () -> new NoThrees().restore(image));
        }
    }

    private static void count() {
        NoThrees x = new NoThrees();
        Twins.busy(x);
        int[] many = {7, 4, 20, 3, 2};
        for (int what = 0; what < 5; what++) {
            Check.due("Promise 48: count(" + what + ")", many[what], x.count(what));
        }
        for (int what : new int[] {-1, 5, 6, -2, 256, Integer.MIN_VALUE, Integer.MAX_VALUE}) {
            Check.due("Promise 48: count(" + what + ")", -1, x.count(what));
            Check.due("Promise 48: count(" + what + ") of a new object", -1, new NoThrees().count(what));
        }
        Twins.idle("Promise 48: asked", 3, Twins::busy, y -> y.count(3));
        Twins.idle("Promise 4: asked", 16, Twins::busy, y -> y.fault(1));
    }

    private static void countEdges() {
        NoThrees x = Check.told("points 64;");
        Check.due("Promise 48: 64 points", 64, x.count(0));
        for (int i = 0; i < 64; i++) {
            Check.due("Promise 48: lines", i, x.count(1));
            Check.due("Promise 48: acts", Math.min(i, 20), x.count(3));
            x.add(3);
        }
        Check.due("Promise 48: 64 lines", 64, x.count(1));
        Check.due("Promise 48: 20 acts", 20, x.count(3));
        for (int i = 0; i < 20; i++) {
            x.undo();
            Check.due("Promise 48: acts", 19 - i, x.count(3));
            Check.due("Promise 48: undone", i + 1, x.count(4));
        }
        x.undo();
        Check.due("Promise 48: 20 undone", 20, x.count(4));
        Check.due("Promise 48: 44 lines", 44, x.count(1));
        for (int i = 1; i <= 36; i++) {
            x.feed(0, 0, 0, 0, 0);
            Check.due("Promise 48: bytes", Math.min(20 * i, 700), x.count(2));
        }
        x.world(3);
        Check.due("Promise 48: no bytes", 0, x.count(2));
    }
}
