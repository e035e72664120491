import java.util.Arrays;
import java.util.NoSuchElementException;

/** Promises 36 to 42: acts, undone and done again, told on trays. */
public final class ActsTest {
    public static void main(String[] args) {
        add();
        drop();
        dual();
        left();
        undo();
        again();
        twenty();
        perform();
        performEnds();
        performLong();
        Check.end("ActsTest");
    }

    private static void add() {
        NoThrees x = Check.told("points 5;");
        Check.due("add", 0, x.add(3));
        Check.due("add", 1, x.add(3));
        Check.due("add", 2, x.add(31));
        Check.due("line", 31, x.line(2));
        Check.due("near", 30, x.near(0));
        Check.due("acts", 3, x.count(3));
        Check.thrown("add nothing", IllegalArgumentException.class, () -> x.add(0));
        Check.thrown("add a point", IllegalArgumentException.class, () -> x.add(16));
        Check.thrown("add others than points", IllegalArgumentException.class, () -> x.add(33));
        Check.due("a throw is no act", 3, x.count(3));
        for (int i = 3; i < 64; i++) {
            Check.due("add", i, x.add(6));
        }
        x.undo();
        Check.due("add", 63, x.add(12));
        Check.due("a 65th", -1, x.add(3));
        Check.due("nothing happens", 64, x.count(1));
        Check.due("no act", 20, x.count(3));
        Check.thrown("what is thrown is asked ahead of it", IllegalArgumentException.class, () -> x.add(1));
        Check.thrown("what is thrown is asked ahead of it", IllegalArgumentException.class, () -> x.add(96));
        x.drop(0);
        x.add(24);
        x.dual();
        x.undo();
        Check.due("a 65th", -1, x.add(3));
        Check.due("what was undone can still be done again", 1, x.count(4));
        NoThrees all = Check.told("points 64;");
        Check.due("add all", 0, all.add(-1));
        Check.due("line of all", -1, all.line(0));
    }

    private static void drop() {
        NoThrees x = Check.told("points 5;line 0 1;line 1 2;line 2 3;");
        Check.due("drop", 6, x.drop(1));
        Check.due("those behind become one less", 12, x.line(1));
        Check.due("lines", 2, x.count(1));
        Check.due("through", 2, x.through(2));
        Check.due("near", 8, x.near(2));
        Check.thrown("drop(2)", NoSuchElementException.class, () -> x.drop(2));
        Check.thrown("drop(-1)", NoSuchElementException.class, () -> x.drop(-1));
        Check.due("drop", 12, x.drop(1));
        Check.due("drop", 3, x.drop(0));
        Check.due("acts", 3, x.count(3));
        Check.thrown("drop(0)", NoSuchElementException.class, () -> x.drop(0));
        Check.due("points stay", 5, x.count(0));
    }

    private static void dual() {
        NoThrees x = Check.told("points 5;line 0 1 2;line 3 1;line 2 1;");
        Check.due("dual", 3, x.dual());
        Check.due("lines of two or more", 2, x.count(1));
        Check.due("line", 7, x.line(0));
        Check.due("line", 5, x.line(1));
        Check.due("dual", 2, x.dual());
        Check.due("line", 3, x.line(0));
        Check.due("line", 3, x.line(1));
        Check.due("acts", 2, x.count(3));
        x.undo();
        x.undo();
        Check.due("points", 5, x.count(0));
        x = Check.told("points 5;");
        Check.due("dual without lines", 0, x.dual());
        Check.due("dual without points", 0, x.dual());
        Check.due("those are acts", 2, x.count(3));
        NoThrees many = Check.told("points 64;");
        for (int i = 0; i < 64; i++) {
            many.add(1L << i | 1L << (i + 1) % 64);
        }
        Check.due("dual of 64", 64, many.dual());
        Check.due("lines of 64", 64, many.count(1));
        Check.due("line of 64", 1L << 63 | 1, many.line(0));
        NoThrees six = Check.told("sixes;");
        Check.due("dual of sixes", 45, six.dual());
        Check.due("order", 4, six.order(false));
        Check.due("order", 2, six.order(true));
    }

    private static void left() {
        NoThrees x = Check.told("points 7;line 0 1;line 2 3 4 1;line 4 5;line 1 5 6;line 6 3 2;");
        Check.due("left", 5, x.left(0));
        // Points 2, 3, 4, 5, 6 stay.
        Check.due("lines", 4, x.count(1));
        Check.due("line", 7, x.line(0));
        Check.due("line", Check.set(2, 3), x.line(1));
        Check.due("line", Check.set(3, 4), x.line(2));
        Check.due("line", Check.set(0, 1, 4), x.line(3));
        Check.due("acts", 1, x.count(3));
        Check.thrown("left(5)", NoSuchElementException.class, () -> x.left(5));
        Check.thrown("left(-1)", NoSuchElementException.class, () -> x.left(-1));
        Check.due("left", 1, x.left(2));
        Check.due("no lines", 0, x.count(1));
        Check.due("left", 0, x.left(0));
        Check.thrown("left(0)", NoSuchElementException.class, () -> x.left(0));
        NoThrees six = Check.told("sixes;");
        Check.due("left of sixes", 16, six.left(26));
        Check.due("lines left of sixes", 40, six.count(1));
        NoThrees all = Check.told("points 64;line 62 63;");
        Check.due("left of 64", 63, all.left(0));
        Check.due("line", Check.set(61, 62), all.line(0));
    }

    private static void undo() {
        NoThrees x = Check.told("grid 3 3;");
        Check.due("nothing to undo", false, x.undo());
        x.drop(0);
        x.add(273);
        x.dual();
        x.left(0);
        Check.due("undo", true, x.undo());
        Check.due("undo", true, x.undo());
        Check.due("points", 9, x.count(0));
        Check.due("line", 273, x.line(5));
        Check.due("acts", 2, x.count(3));
        Check.due("undone", 2, x.count(4));
        Check.due("undo", true, x.undo());
        Check.due("lines", 5, x.count(1));
        Check.due("undo", true, x.undo());
        Check.due("line", 7, x.line(0));
        Check.due("near", 78, x.near(0));
        Check.due("nothing to undo", false, x.undo());
        Check.due("undone", 4, x.count(4));
    }

    private static void again() {
        NoThrees x = Check.told("points 4;");
        Check.due("nothing to do again", false, x.again());
        x.add(3);
        x.add(6);
        x.undo();
        x.undo();
        Check.due("again", true, x.again());
        Check.due("line", 3, x.line(0));
        Check.due("near", 2, x.near(0));
        Check.due("lines", 1, x.count(1));
        Check.due("again", true, x.again());
        Check.due("line", 6, x.line(1));
        Check.due("nothing to do again", false, x.again());
        x.undo();
        x.add(12);
        Check.due("another act is done", false, x.again());
        Check.due("line", 12, x.line(1));
        x.undo();
        x.dual();
        Check.due("another act is done", 0, x.count(4));
        x.undo();
        Check.thrown("drop: no line", NoSuchElementException.class, () -> x.drop(9));
        Check.due("a throw is no act", 1, x.count(4));
        x.tray(0, 0, 2);
        x.write(0, 0, -2);
        x.write(0, 1, 9);
        x.perform(0);
        Check.due("what can't be is no act", 1, x.count(4));
        Check.due("again", true, x.again());
        Check.due("points", 1, x.count(0));
    }

    private static void twenty() {
        NoThrees x = Check.told("points 8;");
        for (int i = 0; i < 25; i++) {
            x.add(3L << i % 7);
        }
        Check.due("twenty", 20, x.count(3));
        for (int i = 0; i < 20; i++) {
            Check.due("undo " + i, true, x.undo());
        }
        Check.due("not the 21st", false, x.undo());
        Check.due("five stay", 5, x.count(1));
        Check.due("twenty undone", 20, x.count(4));
        for (int i = 0; i < 20; i++) {
            Check.due("again " + i, true, x.again());
            Check.due("line", 3L << (i + 5) % 7, x.line(i + 5));
        }
        Check.due("twenty", 20, x.count(3));
        Check.due("lines", 25, x.count(1));
        x.drop(0);
        Check.due("twenty", 20, x.count(3));
        x.undo();
        Check.due("lines", 25, x.count(1));
        Check.due("one less", 19, x.count(3));
    }

    private static NoThrees withTray(String text, int sort, long... numbers) {
        NoThrees x = Check.told(text);
        x.tray(0, sort, numbers.length);
        Check.write(x, 0, numbers);
        return x;
    }

    private static void performed(int used, int acts, String text, long... numbers) {
        for (int sort = 0; sort < 4; sort++) {
            NoThrees x = withTray(text, sort, numbers);
            Check.due(text + " perform " + Arrays.toString(numbers), used, x.perform(0));
            Check.due(text + " acts " + Arrays.toString(numbers), acts, x.count(3));
        }
    }

    private static void perform() {
        NoThrees x = Check.told("grid 3 3;");
        for (int tray : new int[] {-1, 4}) {
            Check.thrown("perform: no tray", NoSuchElementException.class, () -> x.perform(tray));
        }
        Check.thrown("perform: missing", IllegalStateException.class, () -> x.perform(0));
        x.tray(0, 0, 0);
        Check.due("an empty tray", 0, x.perform(0));
        x.tray(3, 3, 9);
        Check.write(x, 3, -1, 8, 4, 0, 4, -2, 0, -4, 1);
        Check.due("perform", 9, x.perform(3));
        Check.due("acts", 3, x.count(3));
        // Of the points 0, 2, 3, .. 8 those of the column 1, 4, 7 go.
        Check.due("points", 6, x.count(0));
        Check.due("lines", 5, x.count(1));
        Check.due("line", Check.set(0, 5), x.line(4));
        x.undo();
        Check.due("line", 273, x.line(5));
        x.tray(1, 1, 4);
        Check.write(x, 1, -6, -5, -5, -3);
        Check.due("perform", 4, x.perform(1));
        Check.due("points", 7, x.count(0));
        Check.due("acts", 2, x.count(3));
        Check.due("another act was done", 0, x.count(4));
    }

    private static void performEnds() {
        performed(0, 0, "points 5;", 0, -3);
        performed(0, 0, "points 5;", -7, -3);
        performed(0, 0, "points 5;", -128, -3);
        performed(1, 1, "points 5;", -3, 7, -3);
        performed(0, 0, "points 5;", -1);
        performed(0, 0, "points 5;", -1, 0);
        performed(0, 0, "points 5;", -1, 0, -3);
        performed(0, 0, "points 5;", -1, 3, 3, 3);
        performed(0, 0, "points 5;", -1, 0, 1, 5);
        performed(5, 1, "points 5;", -1, 0, 1, 0, 1);
        performed(6, 2, "points 5;", -1, 0, 1, -1, 2, 1, -1);
        performed(3, 1, "points 5;", -1, 0, 1, -2, 1);
        performed(5, 2, "points 5;", -1, 0, 1, -2, 0, -2, 0);
        performed(3, 1, "points 5;", -1, 0, 1, -2);
        performed(3, 1, "points 5;", -1, 0, 1, -2, -1, 0, 1);
        performed(0, 0, "points 5;", -4, 5);
        performed(0, 0, "points 5;", -4, -3);
        performed(0, 0, "points 5;", -4);
        performed(4, 2, "points 5;", -4, 4, -4, 0, -4, 3);
        performed(0, 0, "points 5;", -5, -3);
        performed(0, 0, "points 5;", -6, -3);
        performed(3, 1, "points 5;", -3, -5, -6, -6);
        performed(2, 0, "points 5;", -3, -5, -5);
        performed(3, 1, "points 5;", -3, -5, -3, -6);
        NoThrees wide = withTray("points 5;", 3, -1, 0, 1L << 32 | 1, -3);
        Check.due("no such point by its low bits", 0, wide.perform(0));
        wide = withTray("points 64;line 0 1;", 3, -2, 1L << 32);
        Check.due("no such line by its low bits", 0, wide.perform(0));
        wide = withTray("points 64;line 0 1;", 3, (1L << 32) - 3);
        Check.due("no such act by its low bits", 0, wide.perform(0));
        wide = withTray("points 64;line 0 1;", 2, (1L << 32) - 3);
        Check.due("cut to 32 bits it is an act", 1, wide.perform(0));
    }

    private static void performLong() {
        NoThrees x = Check.told("points 2;");
        for (int i = 0; i < 62; i++) {
            x.add(3);
        }
        x.tray(2, 0, 10);
        Check.write(x, 2, -1, 0, 1, -1, 0, 1, -1, 0, 1, -3);
        Check.due("no 65th line", 6, x.perform(2));
        Check.due("lines", 64, x.count(1));
        x = Check.told("points 2;line 0 1;line 0 1;");
        x.tray(2, 0, 40);
        for (int i = 0; i < 40; i++) {
            x.write(2, i, i < 25 ? -3 : -5);
        }
        Check.due("forty acts", 40, x.perform(2));
        Check.due("acts", 5, x.count(3));
        Check.due("undone", 15, x.count(4));
        for (int i = 0; i < 40; i++) {
            x.write(2, i, -5);
        }
        Check.due("five are left to be undone", 5, x.perform(2));
    }
}
