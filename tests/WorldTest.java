import java.util.NoSuchElementException;

/** Promises 1 to 15: the tape, texts, what is joined, and the laws. */
public final class WorldTest {
    public static void main(String[] args) {
        newObject();
        feed();
        world();
        faults();
        named();
        linesAndPoints();
        acrossAndSpanned();
        hyperAndRegular();
        laws();
        ownNumbers();
        Check.end("WorldTest");
    }

    private static void newObject() {
        NoThrees x = new NoThrees();
        for (int what = 0; what < 5; what++) {
            Check.due("new: count(" + what + ")", 0, x.count(what));
        }
        Check.due("new: undo", false, x.undo());
        Check.due("new: again", false, x.again());
        Check.due("new: fault(0)", 0, x.fault(0));
        Check.due("new: fault(1)", -1, x.fault(1));
        for (int tray = 0; tray < 4; tray++) {
            int t = tray;
            Check.thrown("new: perform", IllegalStateException.class, () -> x.perform(t));
        }
        for (int i = 0; i < 3; i++) {
            int image = i;
            Check.thrown("new: restore", IllegalStateException.class, () -> x.restore(image));
        }
        Check.thrown("new: near(0)", NoSuchElementException.class, () -> x.near(0));
        Check.thrown("new: line(0)", NoSuchElementException.class, () -> x.line(0));
        Check.thrown("new: across(1)", IllegalArgumentException.class, () -> x.across(1));
        Check.due("NONE", -1, NoThrees.NONE);
        Check.due("SPENT", -2, NoThrees.SPENT);
    }

    private static void feed() {
        NoThrees x = new NoThrees();
        for (int i = 1; i <= 35; i++) {
            Check.due("feed " + i, 20 * i, x.feed(0x20202020, 0x20202020, 0x20202020, 0x20202020, 0x20202020));
        }
        Check.due("feed beyond 700", -1, x.feed(0, 0, 0, 0, 0));
        Check.due("700 stay", 700, x.count(2));
        Check.due("700 blanks are a text", 0, x.world(700));
        // The highest byte first, and each of them by its eight bits.
        Check.due("feed", 20, x.feed(0x706F696E, 0x7473330A, 0x3B6C696E, 0x65203020, 0x323BFF20));
        Check.due("highest first", 1, x.world(18));
        Check.due("line", 5, x.line(0));
        x.feed(0x706F696E, 0x7473333B, 0xFF000000, 0, 0);
        Check.due("byte 255 begins no token", -11, x.world(9));
        Check.due("its place", 8, x.fault(1));
    }

    private static void world() {
        NoThrees x = new NoThrees();
        Check.thrown("world(1) of an empty tape", IllegalArgumentException.class, () -> x.world(1));
        Check.thrown("world(-1)", IllegalArgumentException.class, () -> x.world(-1));
        Check.due("world(0)", 0, x.world(0));
        Check.due("text", 2, Check.world(x, "points 5; line 0 1; line 2 3 4;"));
        Check.due("tape is empty", 0, x.count(2));
        Check.feed(x, "grid 3 3; points");
        Check.thrown("world(21)", IllegalArgumentException.class, () -> x.world(21));
        Check.thrown("world(least)", IllegalArgumentException.class, () -> x.world(Integer.MIN_VALUE));
        Check.thrown("world(most)", IllegalArgumentException.class, () -> x.world(Integer.MAX_VALUE));
        Check.due("a throw changes no tape", 20, x.count(2));
        Check.due("a throw changes no world", 2, x.count(1));
        Check.due("the first bytes", 6, x.world(9));
        Check.due("those behind are gone", 0, x.count(2));
        x.add(3);
        x.add(5);
        x.undo();
        Check.due("a fault", -12, Check.world(x, "grid 2 2"));
        Check.due("tape is empty with a fault", 0, x.count(2));
        Check.due("points stay with a fault", 9, x.count(0));
        Check.due("lines stay with a fault", 7, x.count(1));
        Check.due("acts stay with a fault", 1, x.count(3));
        Check.due("undone acts stay with a fault", 1, x.count(4));
        Check.due("fault(0)", 2, x.fault(0));
        Check.due("fault(1)", 8, x.fault(1));
        Check.due("fault(2)", -1, x.fault(2));
        Check.due("fault(-1)", -1, x.fault(-1));
        Check.thrown("world(1)", IllegalArgumentException.class, () -> x.world(1));
        Check.due("a throw leaves the fault", 2, x.fault(0));
        Check.due("no text, no points", 0, x.world(0));
        Check.due("no points", 0, x.count(0));
        Check.due("nothing to undo", 0, x.count(3));
        Check.due("nothing to do again", 0, x.count(4));
        Check.due("fault(0) without", 0, x.fault(0));
        Check.due("fault(1) without", -1, x.fault(1));
        Check.due("blanks alone", 0, Check.world(x, " \n  \n"));
    }

    private static void taken(int points, int lines, String text) {
        NoThrees x = new NoThrees();
        Check.due(text, lines, Check.world(x, text));
        Check.due(text + ": points", points, x.count(0));
        Check.due(text + ": fault", 0, x.fault(0));
        Check.due(text + ": place", -1, x.fault(1));
    }

    private static void refused(int kind, int place, String text) {
        NoThrees x = new NoThrees();
        Check.due(text, -10 - kind, Check.world(x, text));
        Check.due(text + ": fault", kind, x.fault(0));
        Check.due(text + ": place", place, x.fault(1));
    }

    private static void faults() {
        taken(1, 0, "points 1;");
        taken(64, 0, "points 064 ;");
        taken(4, 0, "points4;");
        taken(4, 4, "grid2 2;");
        taken(64, 16, "\n grid\n8 8\n ;\n");
        taken(4, 2, "points 4;line0 1;line 003 0 1 2;");
        taken(15, 16, "duads;line 14 0;");
        refused(1, 0, "Points 4;");
        refused(1, 0, "\tpoints 4;");
        refused(1, 7, "points -4;");
        refused(1, 7, "points 1000;");
        refused(1, 7, "points 0004;");
        refused(1, 8, "points 4,");
        refused(1, 17, "points 4;line 0 1.");
        refused(1, 16, "points 4;line 0 0001;");
        refused(1, 0, "1234");
        refused(1, 5, "duads\r;");
        for (int sign = 0; sign < 256; sign++) {
            boolean begins = sign == ';' || sign >= '0' && sign <= '9' || sign >= 'a' && sign <= 'z';
            if (sign == 10 || sign == 32) {
                taken(0, 0, "" + (char) sign);
            } else {
                refused(begins ? 2 : 1, 0, (char) sign + ";");
                refused(begins ? 2 : 1, 6, "duads " + (sign == ';' ? "a" : "" + (char) sign) + ";");
            }
        }
        refused(2, 0, "point 4;");
        refused(2, 0, "pointss 4;");
        refused(2, 0, "po%nts 4;");
        refused(2, 0, ";");
        refused(2, 0, "7;");
        refused(2, 0, "line 0 1;");
        refused(2, 6, "points");
        refused(2, 8, "points  ");
        refused(2, 6, "points;");
        refused(2, 7, "points x;");
        refused(2, 8, "points 4");
        refused(2, 9, "points 4 4;");
        refused(2, 9, "points 4 line 0 1;");
        refused(2, 6, "grid 3;");
        refused(2, 9, "grid 3 3 3;");
        refused(2, 6, "duads 6;");
        refused(2, 5, "duads");
        refused(2, 9, "points 4;points 4;");
        refused(2, 9, "points 4;;");
        refused(2, 9, "points 4;4;");
        refused(2, 13, "points 4;line;");
        refused(2, 15, "points 4;line 0;");
        refused(2, 15, "points 4;line 1");
        refused(2, 17, "points 4;line 0 1");
        refused(2, 18, "points 4;line 0 1 line 2 3;");
        refused(2, 16, "points 4;line 0 points;");
        refused(3, 7, "points 0;");
        refused(3, 7, "points 65;");
        refused(3, 7, "points 999 x");
        refused(3, 5, "grid 1 3;");
        refused(3, 5, "grid 9 9;");
        refused(3, 7, "grid 8 9;");
        refused(3, 7, "grid 8 1;");
        refused(3, 14, "points 4;line 4 1;");
        refused(3, 18, "points 4;line 0 1 0;");
        refused(3, 16, "points 4;line 1 01;");
        refused(2, 16, "sixes;line 0 1; duads;");
        StringBuilder text = new StringBuilder("points 9;");
        for (int i = 0; i < 64; i++) {
            text.append("line 0 1;");
        }
        taken(9, 64, text.toString());
        refused(4, 585, text + "line");
        refused(4, 586, text + " line 9");
        refused(2, 585, text + "lines");
        refused(2, 585, text + "points 3;");
        refused(2, 585, text + ";");
        refused(1, 585, text + "?");
        StringBuilder more = new StringBuilder("sixes;");
        for (int i = 0; i < 19; i++) {
            more.append("line 0 1;");
        }
        taken(27, 64, more.toString());
        refused(4, more.length() + 1, more + " line 0 1;");
    }

    private static void named() {
        NoThrees x = Check.told("grid 2 3;");
        long[] grid = {7, 56, 9, 18, 36};
        for (int i = 0; i < 5; i++) {
            Check.due("grid 2 3: line " + i, grid[i], x.line(i));
        }
        x = Check.told("grid 8 8;");
        Check.due("grid 8 8: line 7", 0xFFL << 56, x.line(7));
        Check.due("grid 8 8: line 15", 0x8080808080808080L, x.line(15));
        x = Check.told("duads;");
        Check.due("duads: points", 15, x.count(0));
        int[][] duads = {{0, 9, 14}, {0, 10, 13}, {0, 11, 12}, {1, 6, 14}, {1, 7, 13}, {1, 8, 12}, {2, 5, 14}, {2, 7, 11},
            {2, 8, 10}, {3, 5, 13}, {3, 6, 11}, {3, 8, 9}, {4, 5, 12}, {4, 6, 10}, {4, 7, 9}};
        for (int i = 0; i < 15; i++) {
            Check.due("duads: line " + i, Check.set(duads[i]), x.line(i));
        }
        x = Check.told("sixes;");
        Check.due("sixes: points", 27, x.count(0));
        Check.due("sixes: lines", 45, x.count(1));
        Check.due("sixes: line 4", Check.set(0, 11, 16), x.line(4));
        Check.due("sixes: line 5", Check.set(1, 6, 12), x.line(5));
        Check.due("sixes: line 29", Check.set(5, 10, 26), x.line(29));
        Check.due("sixes: line 30", Check.set(12, 21, 26), x.line(30));
        Check.due("sixes: line 44", Check.set(16, 19, 21), x.line(44));
        x = Check.told("threes;");
        Check.due("threes: points", 40, x.count(0));
        Check.due("threes: lines", 40, x.count(1));
        Check.due("threes: line 0", Check.set(0, 4, 5, 6), x.line(0));
        // 0001 with 1000, 1001, 1002; 0010 with 0100, 0110, 0120.
        Check.due("threes: line 1", Check.set(0, 13, 14, 15), x.line(1));
        Check.due("threes: line 4", Check.set(1, 4, 7, 10), x.line(4));
        long last = 0;
        for (int i = 0; i < 40; i++) {
            long line = x.line(i);
            long two = (long) Long.numberOfTrailingZeros(line) << 8 | Long.numberOfTrailingZeros(line & line - 1);
            Check.due("threes: four points", 4, Long.bitCount(line));
            Check.due("threes: in order", true, i == 0 || two > last);
            last = two;
        }
        Check.due("threes: no line 40", 0, x.count(1) - 40);
        Check.due("threes: laws", 0, x.law());
    }

    private static void linesAndPoints() {
        NoThrees x = Check.told("points 64; line 0 1 63; line 63 1; line 5 6 7;");
        Check.due("line", Check.set(0, 1, 63), x.line(0));
        Check.due("line", Check.set(5, 6, 7), x.line(2));
        Check.thrown("line(3)", NoSuchElementException.class, () -> x.line(3));
        Check.thrown("line(-1)", NoSuchElementException.class, () -> x.line(-1));
        Check.due("through", 3, x.through(63));
        Check.due("through", 1, x.through(0));
        Check.due("through none", 0, x.through(2));
        Check.thrown("through(64)", NoSuchElementException.class, () -> x.through(64));
        Check.thrown("through(-1)", NoSuchElementException.class, () -> x.through(-1));
        Check.due("joined by the first", 0, x.joined(1, 63));
        Check.due("joined", 2, x.joined(7, 5));
        Check.due("not joined", -1, x.joined(0, 5));
        Check.due("joined to itself", 0, x.joined(63, 63));
        Check.due("joined to itself", 2, x.joined(6, 6));
        Check.due("joined to itself on no line", -1, x.joined(2, 2));
        Check.thrown("joined(64, 0)", NoSuchElementException.class, () -> x.joined(64, 0));
        Check.thrown("joined(0, -1)", NoSuchElementException.class, () -> x.joined(0, -1));
        Check.due("near", Check.set(0, 1), x.near(63));
        Check.due("near", Check.set(1, 63), x.near(0));
        Check.due("near none", 0, x.near(3));
        Check.thrown("near(64)", NoSuchElementException.class, () -> x.near(64));
        Check.thrown("near(-1)", NoSuchElementException.class, () -> x.near(-1));
    }

    private static void acrossAndSpanned() {
        NoThrees x = Check.told("grid 3 3;");
        Check.due("across from nothing", 511, x.across(0));
        Check.due("across from one", Check.set(0, 1, 2, 3, 6), x.across(1));
        Check.due("across from two joined", 7, x.across(3));
        Check.due("across from two apart", Check.set(1, 3), x.across(Check.set(0, 4)));
        Check.due("across from all", 0, x.across(511));
        Check.thrown("across(512)", IllegalArgumentException.class, () -> x.across(512));
        Check.thrown("across(-1)", IllegalArgumentException.class, () -> x.across(-1));
        Check.due("spanned by nothing", 0, x.spanned(0));
        Check.due("spanned by one", 16, x.spanned(16));
        Check.due("spanned by two joined", 7, x.spanned(5));
        Check.due("spanned by two apart", 17, x.spanned(17));
        Check.due("spanned by a line and a point", 511, x.spanned(7 | 24));
        Check.thrown("spanned(512)", IllegalArgumentException.class, () -> x.spanned(512));
        NoThrees y = Check.told("points 6; line 4 5 0; line 2 3 4; line 0 1 2; line 0 5;");
        Check.due("spanned in steps", 63, y.spanned(Check.set(0, 1, 3)));
        Check.due("spanned in some steps", Check.set(0, 4, 5), y.spanned(Check.set(0, 5)));
        NoThrees z = Check.told("points 64;");
        Check.due("across from nothing of 64", -1, z.across(0));
        Check.due("spanned by all of 64", -1, z.spanned(-1));
        Check.due("across from one without lines", 8, z.across(8));
    }

    private static void hyperAndRegular() {
        NoThrees x = Check.told("duads;");
        Check.due("hyper", Check.set(0, 1, 5), x.hyper(0, 1));
        Check.due("regular", true, x.regular(0, 1));
        Check.due("hyper of two joined", 0, x.hyper(0, 9));
        Check.due("hyper of one", 0, x.hyper(3, 3));
        Check.due("regular of two joined", false, x.regular(0, 9));
        Check.due("regular of one", false, x.regular(3, 3));
        Check.thrown("hyper(15, 0)", NoSuchElementException.class, () -> x.hyper(15, 0));
        Check.thrown("hyper(0, 15)", NoSuchElementException.class, () -> x.hyper(0, 15));
        Check.thrown("regular(-1, 0)", NoSuchElementException.class, () -> x.regular(-1, 0));
        Check.thrown("regular(0, -1)", NoSuchElementException.class, () -> x.regular(0, -1));
        NoThrees y = Check.told("sixes;");
        Check.due("sixes: not regular", false, y.regular(0, 1));
        Check.due("sixes: hyper", true, Long.bitCount(y.hyper(0, 1)) < 5 && (y.hyper(0, 1) & 3) == 3);
        NoThrees none = Check.told("points 3;");
        Check.due("hyper without lines", 7, none.hyper(0, 1));
        Check.due("regular without lines", false, none.regular(0, 1));
        // 3 lies on four lines, 0 on one: what counts is the first of the two.
        NoThrees z = Check.told("points 6; line 0 1 2; line 3 1; line 3 2; line 3 4; line 3 5;");
        Check.due("hyper of 0, 3", 15, z.hyper(0, 3));
        Check.due("regular by the second", false, z.regular(0, 3));
        Check.due("regular by the first", true, z.regular(3, 0));
    }

    private static void laws() {
        Check.due("law: none", 0, Check.told("points 3;").law());
        Check.due("law 1", 1, Check.told("points 4; line 0 1 2; line 0 1;").law());
        Check.due("law 1 of lines alike", 1, Check.told("points 2; line 0 1; line 0 1;").law());
        Check.due("law 2", 2, Check.told("points 5; line 0 1 2; line 3 4;").law());
        Check.due("law 3", 3, Check.told("points 3; line 0 1;").law());
        Check.due("law 3", 3, Check.told("points 4; line 0 1; line 1 2; line 2 3;").law());
        Check.due("law 4: none is joined", 4, Check.told("points 4; line 0 1; line 2 3;").law());
        Check.due("law 4: two are joined", 4, Check.told("points 3; line 0 1; line 1 2; line 0 2;").law());
        Check.due("law: one line", 0, Check.told("points 3; line 0 1 2;").law());
        Check.due("law: sixes", 0, Check.told("sixes;").law());
        NoThrees x = Check.told("grid 4 4;");
        Check.due("law: grid", 0, x.law());
        Check.due("order", 3, x.order(false));
        Check.due("order", 1, x.order(true));
        Check.due("order: grid 2 3", -1, Check.told("grid 2 3;").order(false));
        Check.due("order without lines", -1, Check.told("points 3;").order(false));
        Check.due("order without lines", -1, Check.told("points 3;").order(true));
        Check.due("order of one line", 2, Check.told("points 3; line 0 1 2;").order(false));
        Check.due("order of one line", 0, Check.told("points 3; line 0 1 2;").order(true));
        x = Check.told("sixes;");
        Check.due("order: sixes", 2, x.order(false));
        Check.due("order: sixes", 4, x.order(true));
    }

    private static void ownNumbers() {
        NoThrees x = Check.told("threes;");
        int[] numbers = {12, 2, -4};
        int[] times = {1, 24, 15};
        for (int k = 0; k < 3; k++) {
            Check.due("own " + k, numbers[k], x.own(k, false));
            Check.due("own times " + k, times[k], x.own(k, true));
        }
        Check.thrown("own(3)", IllegalArgumentException.class, () -> x.own(3, false));
        Check.thrown("own(-1)", IllegalArgumentException.class, () -> x.own(-1, true));
        NoThrees none = Check.told("grid 2 3;");
        Check.due("own without orders", -1, none.own(0, false));
        Check.due("own without orders", -1, none.own(0, true));
        Check.thrown("own(3) without orders", IllegalArgumentException.class, () -> none.own(3, false));
        NoThrees one = Check.told("points 4; line 0 1 2 3;");
        Check.due("own of one line", 3, one.own(0, false));
        Check.due("own of one line", 2, one.own(1, false));
        Check.due("own of one line is NONE", -1, one.own(2, false));
        Check.due("own times of one line", 0, one.own(1, true));
        Check.due("own times of one line", 3, one.own(2, true));
        NoThrees six = Check.told("sixes;");
        Check.due("sixes: own", 10, six.own(0, false));
        Check.due("sixes: own", 1, six.own(1, false));
        Check.due("sixes: own times", 20, six.own(1, true));
    }
}
