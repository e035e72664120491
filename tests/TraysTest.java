import java.util.NoSuchElementException;

/** Promises 43 to 48: trays, images, counts. */
public final class TraysTest {
    public static void main(String[] args) {
        tray();
        write();
        pour();
        image();
        restore();
        count();
        Check.end("TraysTest");
    }

    private static void tray() {
        NoThrees x = Check.told("points 3;");
        for (int t : new int[] {-1, 4, Integer.MIN_VALUE, Integer.MAX_VALUE}) {
            Check.thrown("tray " + t, NoSuchElementException.class, () -> x.tray(t, 0, 5));
            Check.thrown("no tray ahead of no sort", NoSuchElementException.class, () -> x.tray(t, 9, 99));
        }
        for (int sort : new int[] {-1, 4, Integer.MIN_VALUE, Integer.MAX_VALUE}) {
            Check.thrown("sort " + sort, IllegalArgumentException.class, () -> x.tray(0, sort, 5));
        }
        for (int many : new int[] {-1, 41, Integer.MIN_VALUE, Integer.MAX_VALUE}) {
            Check.thrown("many " + many, IllegalArgumentException.class, () -> x.tray(0, 0, many));
        }
        Check.thrown("it is still missing", IllegalStateException.class, () -> x.write(0, 0, 0));
        for (int t = 0; t < 4; t++) {
            int row = t;
            x.tray(t, t, 40);
            Check.due("the last place", -1, x.write(t, 39, -1));
            Check.thrown("behind it", IndexOutOfBoundsException.class, () -> x.write(row, 40, 0));
        }
        x.tray(0, 0, 0);
        Check.thrown("no place", IndexOutOfBoundsException.class, () -> x.write(0, 0, 0));
        x.tray(0, 3, 4);
        Check.write(x, 0, -1, 1, 2, 2);
        x.tray(0, 3, 4);
        Check.due("0s again", 0, x.perform(0));
        Check.write(x, 0, -1);
        Check.due("0s behind it", 0, x.perform(0));
        Check.thrown("tray: a throw changes nothing", IllegalArgumentException.class, () -> x.tray(0, 4, 2));
        Check.due("it has its places", 7, x.write(0, 3, 7));
    }

    private static void write() {
        NoThrees x = Check.told("points 3;");
        Check.thrown("no tray", NoSuchElementException.class, () -> x.write(4, 0, 0));
        Check.thrown("no tray", NoSuchElementException.class, () -> x.write(-1, 99, 0));
        Check.thrown("missing", IllegalStateException.class, () -> x.write(3, -1, 0));
        for (int sort = 0; sort < 4; sort++) {
            x.tray(sort, sort, 2);
        }
        long v = 0x123456789ABCDEF0L;
        Check.due("8 bits", -16, x.write(0, 1, v));
        Check.due("16 bits", (short) 0xDEF0, x.write(1, 1, v));
        Check.due("32 bits", (int) 0x9ABCDEF0L, x.write(2, 1, v));
        Check.due("64 bits", v, x.write(3, 1, v));
        Check.due("8 bits", 127, x.write(0, 0, 127));
        Check.due("8 bits", -128, x.write(0, 0, 128));
        Check.due("16 bits", -32768, x.write(1, 0, 32768));
        Check.due("32 bits", Integer.MIN_VALUE, x.write(2, 0, 1L << 31));
        Check.due("64 bits", Long.MIN_VALUE, x.write(3, 0, Long.MIN_VALUE));
        for (int place : new int[] {-1, 2, 40, Integer.MIN_VALUE, Integer.MAX_VALUE}) {
            Check.thrown("place " + place, IndexOutOfBoundsException.class, () -> x.write(0, place, 1));
        }
    }

    private static void pour() {
        NoThrees x = Check.told("points 64;");
        Check.thrown("no tray", NoSuchElementException.class, () -> x.pour(4));
        Check.thrown("no tray", NoSuchElementException.class, () -> x.pour(-1));
        Check.thrown("missing", IllegalStateException.class, () -> x.pour(0));
        x.tray(0, 0, 3);
        Check.due("no lines", 0, x.pour(0));
        x.add(0x3FDL);
        x.add(0xFEL | 1L << 40);
        x.add(3);
        x.add(5);
        Check.due("three places", 3, x.pour(0));
        // Cut to 8 bits they are -3, -2, 3: DUAL, and a line of that is dropped.
        Check.due("lines by 8 bits", 3, x.perform(0));
        Check.due("points of the DUAL", 4, x.count(0));
        Check.due("lines but one", 7, x.count(1));
        NoThrees y = Check.told("points 8;line 0 1;line 0 2;");
        y.tray(1, 1, 4);
        Check.write(y, 1, 0, 0, 7, -3);
        Check.due("two lines", 2, y.pour(1));
        y.write(1, 0, -1);
        // The second line is 5; what is behind it stays.
        Check.due("a line of 5, 7 and DUAL", 4, y.perform(1));
        y.undo();
        Check.due("the line of 5, 7", Check.set(5, 7), y.line(2));
        for (int sort = 0; sort < 4; sort++) {
            NoThrees z = Check.told("points 64;");
            z.add(sort == 0 ? 0xFDL : sort == 1 ? 0xFFFDL : sort == 2 ? 0xFFFFFFFDL : -3);
            z.tray(3, sort, 2);
            Check.due("one line", 1, z.pour(3));
            Check.due("DUAL, cut to its sort", 1, z.perform(3));
            z = Check.told("points 64;");
            z.add(sort == 0 ? 0x7DL : sort == 1 ? 0xFDL : sort == 2 ? 0xFFFDL : 0xFFFFFFFDL);
            z.tray(3, sort, 2);
            z.pour(3);
            Check.due("no act", 0, z.perform(3));
        }
        NoThrees many = Check.told("points 64;");
        for (int i = 0; i < 50; i++) {
            many.add(3);
        }
        many.tray(3, 3, 40);
        Check.due("as many as it has places", 40, many.pour(3));
    }

    private static void image() {
        NoThrees x = Check.told("points 3;line 0 1;");
        Check.thrown("image(3)", NoSuchElementException.class, () -> x.image(3));
        Check.thrown("image(-1)", NoSuchElementException.class, () -> x.image(-1));
        x.image(0);
        x.add(6);
        x.image(2);
        Check.due("acts stay", 1, x.count(3));
        x.drop(0);
        x.restore(0);
        Check.due("as it was", 1, x.count(1));
        Check.due("as it was", 3, x.line(0));
        x.restore(2);
        Check.due("as it was", 2, x.count(1));
        x.dual();
        x.image(2);
        x.restore(0);
        x.restore(2);
        Check.due("made anew", 2, x.count(0));
        x.add(3);
        x.restore(2);
        Check.due("an image doesn't change with the world", 1, x.count(1));
    }

    private static void restore() {
        NoThrees x = Check.told("points 3;line 0 1;");
        Check.thrown("restore(3)", NoSuchElementException.class, () -> x.restore(3));
        Check.thrown("restore(-1)", NoSuchElementException.class, () -> x.restore(-1));
        Check.thrown("restore(1)", IllegalStateException.class, () -> x.restore(1));
        x.image(1);
        x.add(6);
        x.add(5);
        x.undo();
        Check.thrown("restore(0)", IllegalStateException.class, () -> x.restore(0));
        Check.due("a throw changes nothing", 1, x.count(3));
        Check.due("a throw changes nothing", 1, x.count(4));
        Check.feed(x, "grid 2 2;");
        x.restore(1);
        Check.due("nothing can be undone", 0, x.count(3));
        Check.due("nothing can be done again", 0, x.count(4));
        Check.due("undo", false, x.undo());
        Check.due("again", false, x.again());
        Check.due("near", 2, x.near(0));
        Check.due("near", 0, x.near(2));
        Check.due("the tape stays", 20, x.count(2));
        x.world(9);
        x.restore(1);
        Check.due("images stay with another world", 3, x.count(0));
    }

    private static void count() {
        NoThrees x = Check.told("grid 2 3;");
        Check.feed(x, "x");
        Check.feed(x, "x");
        x.add(3);
        x.add(3);
        x.add(3);
        x.undo();
        Check.due("points", 6, x.count(0));
        Check.due("lines", 7, x.count(1));
        Check.due("bytes", 40, x.count(2));
        Check.due("to be undone", 2, x.count(3));
        Check.due("to be done again", 1, x.count(4));
        Check.due("others", -1, x.count(5));
        Check.due("others", -1, x.count(-1));
        Check.due("others", -1, x.count(Integer.MIN_VALUE));
        Check.due("others", -1, x.count(Integer.MAX_VALUE));
    }
}
