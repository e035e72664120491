import java.util.NoSuchElementException;

/** The edges that Terms 2 and the promises 5 to 15 name: lines, what is joined, across, spanned, laws, orders. */
public final class PointEdgesTest {
    private static final int[] FAR_OUT = {-2, Integer.MIN_VALUE, Integer.MAX_VALUE, 64, 65, 128};

    public static void main(String[] args) {
        line();
        through();
        joined();
        near();
        sets();
        across();
        spanned();
        hyper();
        regular();
        own();
        ownWithoutOrders();
        firstLaws();
        fourthLaw();
        lawsInOrder();
        order();
        Check.end("PointEdgesTest");
    }

    private static final Class<NoSuchElementException> NO_SUCH = NoSuchElementException.class;
    private static final Class<IllegalArgumentException> ILLEGAL = IllegalArgumentException.class;

    /** 64 points, and 64 lines of two: each point is on two of them. */
    private static NoThrees ringOf64() {
        NoThrees x = Check.told("points 64;");
        for (int i = 0; i < 64; i++) {
            x.add(1L << i | 1L << (i + 1) % 64);
        }
        return x;
    }

    private static NoThrees added(int points, long... lines) {
        NoThrees x = Check.told("points " + points + ";");
        for (long set : lines) {
            x.add(set);
        }
        return x;
    }

    private static void line() {
        NoThrees x = ringOf64();
        Check.due("Promise 5: the first line", 3, x.line(0));
        Check.due("Promise 5: the 64th line", 1L << 63 | 1, x.line(63));
        for (int i : new int[] {-1, 64, 65, Integer.MIN_VALUE, Integer.MAX_VALUE}) {
            Check.thrown("Promise 5: line " + i + " of 64", NO_SUCH, () -> x.line(i));
            Twins.refused("Promise 5: line " + i, NO_SUCH, y -> y.line(i));
        }
        NoThrees none = Check.told("points 64;");
        Check.thrown("Promise 5: line 0 of none", NO_SUCH, () -> none.line(0));
        NoThrees one = added(64, -1L);
        Check.due("Promise 5: a line of all", -1, one.line(0));
        Check.thrown("Promise 5: line 1 of one", NO_SUCH, () -> one.line(1));
        one.drop(0);
        Check.thrown("Promise 5: line 0 is dropped", NO_SUCH, () -> one.line(0));
        Twins.refused("Promise 5: behind the last", NO_SUCH, y -> y.line(4));
        Twins.idle("Promise 5: the last", 42, Twins::busy, y -> y.line(3));
    }

    private static void through() {
        NoThrees x = added(64, 1L << 63 | 1);
        Check.due("Promise 6: the first point", 1, x.through(0));
        Check.due("Promise 6: the last point", 1, x.through(63));
        Check.due("Promise 6: a point on no line", 0, x.through(62));
        Check.thrown("Promise 6: point -1", NO_SUCH, () -> x.through(-1));
        NoThrees few = Check.told("points 3;line 0 1;");
        Check.due("Promise 6: the last point", 0, few.through(2));
        Check.thrown("Promise 6: point 3 of 3", NO_SUCH, () -> few.through(3));
        for (int p : FAR_OUT) {
            Check.thrown("Promise 6: point " + p, NO_SUCH, () -> x.through(p));
            Twins.refused("Promise 6: point " + p, NO_SUCH, y -> y.through(p));
        }
        Twins.refused("Promise 6: behind the last", NO_SUCH, y -> y.through(7));
        Twins.idle("Promise 6: the last", 6, Twins::busy, y -> y.through(6));
        NoThrees all = Check.told("points 2;");
        for (int i = 0; i < 64; i++) {
            all.add(3);
        }
        Check.due("Promise 6: 64 lines", -1, all.through(0));
        Check.due("Promise 6: 64 lines", -1, all.through(1));
        all.drop(63);
        Check.due("Promise 6: 63 lines", Long.MAX_VALUE, all.through(1));
    }

    private static void joined() {
        NoThrees x = added(64, Check.set(0, 1), Check.set(0, 1, 63), Check.set(63, 62, 0), Check.set(5, 6));
        Check.due("Promise 7: the first of two lines", 0, x.joined(0, 1));
        Check.due("Promise 7: the first of two lines", 0, x.joined(1, 0));
        Check.due("Promise 7: the first of two lines", 1, x.joined(63, 0));
        Check.due("Promise 7: by points in a row", -1, x.joined(1, 62));
        Check.due("Promise 7: none", -1, x.joined(0, 5));
        Check.due("Promise 7: a line through it", 3, x.joined(6, 6));
        Check.due("Promise 7: none through it", -1, x.joined(7, 7));
        NoThrees last = Check.told("points 3;");
        for (int i = 0; i < 63; i++) {
            last.add(3);
        }
        last.add(6);
        Check.due("Promise 7: the line 63", 63, last.joined(1, 2));
        Check.due("Promise 7: the line 63 through it", 63, last.joined(2, 2));
        Check.due("Promise 7: the line 0", 0, last.joined(0, 0));
        Check.thrown("Promise 7: point 3 of 3", NO_SUCH, () -> last.joined(3, 0));
        Check.thrown("Promise 7: point 3 of 3", NO_SUCH, () -> last.joined(0, 3));
        Check.thrown("Promise 7: point -1", NO_SUCH, () -> last.joined(-1, 0));
        Check.thrown("Promise 7: point -1", NO_SUCH, () -> last.joined(0, -1));
        for (int p : FAR_OUT) {
            Check.thrown("Promise 7: point " + p, NO_SUCH, () -> x.joined(p, 0));
            Check.thrown("Promise 7: point " + p, NO_SUCH, () -> x.joined(63, p));
            Check.thrown("Promise 7: point " + p, NO_SUCH, () -> x.joined(p, p));
            Twins.refused("Promise 7: point " + p, NO_SUCH, y -> y.joined(0, p));
        }
        Twins.idle("Promise 7: asked", 2, Twins::busy, y -> y.joined(6, 0));
    }

    private static void near() {
        NoThrees x = added(64, -1L);
        Check.due("Promise 8: all but itself", -2, x.near(0));
        Check.due("Promise 8: all but itself", Long.MAX_VALUE, x.near(63));
        NoThrees two = Check.told("points 5;line 0 1;line 1 2;line 0 1;line 3 0 1;");
        Check.due("Promise 8: by several lines", Check.set(0, 2, 3), two.near(1));
        Check.due("Promise 8: not those near to near ones", Check.set(1), two.near(2));
        Check.due("Promise 8: nothing", 0, two.near(4));
        Check.thrown("Promise 8: point 5 of 5", NO_SUCH, () -> two.near(5));
        Check.thrown("Promise 8: point -1", NO_SUCH, () -> two.near(-1));
        for (int p : FAR_OUT) {
            Check.thrown("Promise 8: point " + p, NO_SUCH, () -> x.near(p));
            Twins.refused("Promise 8: point " + p, NO_SUCH, y -> y.near(p));
        }
        Twins.idle("Promise 8: asked", Check.set(0, 4, 5), Twins::busy, y -> y.near(6));
    }

    /** A set with others than POINTS: the last point is taken, the one behind it isn't. */
    private static void sets() {
        for (int n : new int[] {1, 2, 31, 32, 33, 62, 63}) {
            NoThrees x = Check.told("points " + n + ";");
            long last = 1L << n - 1;
            Check.due("Promise 9: the last of " + n, last, x.across(last));
            Check.due("Promise 10: the last of " + n, last, x.spanned(last));
            Check.due("Promise 17: the last of " + n, -1, x.even(last));
            Check.due("Promise 19: the last of " + n, -1, x.tight(last));
            for (long set : new long[] {1L << n, 1L << n | 1, 1L << 63, -1L, last | 1L << n}) {
                Check.thrown("Promise 9: others than " + n, ILLEGAL, () -> x.across(set));
                Check.thrown("Promise 10: others than " + n, ILLEGAL, () -> x.spanned(set));
                Check.thrown("Promise 17: others than " + n, ILLEGAL, () -> x.even(set));
                Check.thrown("Promise 19: others than " + n, ILLEGAL, () -> x.tight(set));
                Check.thrown("Promise 36: others than " + n, ILLEGAL, () -> x.add(set));
            }
        }
        NoThrees all = Check.told("points 64;line 0 63;");
        Check.due("Promise 9: all 64", 0, all.across(-1));
        Check.due("Promise 10: all 64", -1, all.spanned(-1));
        Check.due("Promise 16: all 64", 2, all.meets(-1, 0));
        Check.due("Promise 17: all 64", 2, all.even(-1));
        Check.due("Promise 19: all 64", -1, all.tight(-1));
        Check.due("Promise 36: all 64", 1, all.add(-1));
    }

    private static void across() {
        NoThrees x = Check.told("points 6;line 0 1 2;line 2 3;line 3 4 0;");
        Check.due("Promise 9: of the empty set all", 63, x.across(0));
        Check.due("Promise 9: of the empty set all 64", -1, Check.told("points 64;").across(0));
        Check.due("Promise 9: joined or like", Check.set(0, 1, 2, 3, 4), x.across(1));
        Check.due("Promise 9: like alone", Check.set(5), x.across(Check.set(5)));
        Check.due("Promise 9: those of the set, too", Check.set(0, 1, 2), x.across(Check.set(1, 2)));
        Check.due("Promise 9: two that aren't joined", Check.set(0, 2), x.across(Check.set(1, 3)));
        Check.due("Promise 9: nothing", 0, x.across(Check.set(0, 5)));
        Check.due("Promise 9: a line of all", -1, added(64, -1L).across(-1));
        Twins.refused("Promise 9: others than points", ILLEGAL, y -> y.across(1 << 7));
        Twins.refused("Promise 9: others than points", ILLEGAL, y -> y.across(-1));
        Twins.idle("Promise 9: asked", 127, Twins::busy, y -> y.across(0));
    }

    private static void spanned() {
        NoThrees x = Check.told("points 7;line 0 1 2;line 2 3 4;line 4 5;");
        Check.due("Promise 10: the empty set", 0, x.spanned(0));
        for (int p = 0; p < 7; p++) {
            Check.due("Promise 10: one point", 1L << p, x.spanned(1L << p));
        }
        Check.due("Promise 10: two of a line", Check.set(0, 1, 2), x.spanned(Check.set(0, 1)));
        Check.due("Promise 10: two of no line", Check.set(1, 3), x.spanned(Check.set(1, 3)));
        Check.due("Promise 10: a line of two", Check.set(4, 5), x.spanned(Check.set(4, 5)));
        Check.due("Promise 10: one of each of two lines", Check.set(0, 5), x.spanned(Check.set(0, 5)));
        Check.due("Promise 10: a line and one of the next", Check.set(0, 1, 2, 3, 4), x.spanned(Check.set(0, 1, 3)));
        Check.due("Promise 10: a point on no line stays", Check.set(0, 1, 2, 6), x.spanned(Check.set(0, 1, 6)));
        Check.due("Promise 10: all", 127, x.spanned(127));
        // From the last line on each brings the point that the one before it lacks.
        NoThrees chain = Check.told("points 64;");
        for (int i = 61; i >= 0; i--) {
            chain.add(7L << i);
        }
        Check.due("Promise 10: 62 times a point more", -1, chain.spanned(3));
        Check.due("Promise 10: 62 times a point more", -1, chain.spanned(3L << 62));
        Check.due("Promise 10: two apart", Check.set(0, 3), chain.spanned(9));
        NoThrees back = Check.told("points 64;");
        for (int i = 0; i <= 61; i++) {
            back.add(7L << i);
        }
        Check.due("Promise 10: 62 times a point more", -1, back.spanned(3));
        Check.due("Promise 10: 62 times a point more", -1, back.spanned(5L << 61));
        Twins.refused("Promise 10: others than points", ILLEGAL, y -> y.spanned(1 << 7));
        Twins.refused("Promise 10: others than points", ILLEGAL, y -> y.spanned(-1));
        Twins.idle("Promise 10: asked", Check.set(0, 1, 2), Twins::busy, y -> y.spanned(3));
    }

    private static void hyper() {
        NoThrees x = Check.told("points 7;line 0 1;line 1 2;line 3 0;line 3 2;line 4 1 3;line 5 1;");
        Check.due("Promise 11: one", 0, x.hyper(0, 0));
        Check.due("Promise 11: one on no line", 0, x.hyper(6, 6));
        Check.due("Promise 11: joined", 0, x.hyper(0, 1));
        Check.due("Promise 11: joined by a line of three", 0, x.hyper(1, 3));
        // Across from 0, 2 are 1, 3; across from these are 0, 2, 4 and themselves.
        Check.due("Promise 11: not joined", Check.set(0, 1, 2, 3, 4), x.hyper(0, 2));
        Check.due("Promise 11: across from one point", Check.set(0, 1, 2, 3, 4, 5), x.hyper(0, 5));
        Check.due("Promise 11: across from nothing", 127, x.hyper(0, 6));
        Check.due("Promise 11: across from nothing", 127, x.hyper(6, 0));
        Check.due("Promise 11: 64 points, none joined", -1, Check.told("points 64;").hyper(0, 63));
        Check.due("Promise 11: two points", 3, Check.told("points 2;").hyper(1, 0));
        Check.thrown("Promise 11: point 7 of 7", NO_SUCH, () -> x.hyper(7, 0));
        Check.thrown("Promise 11: point 7 of 7", NO_SUCH, () -> x.hyper(0, 7));
        Check.thrown("Promise 11: point -1", NO_SUCH, () -> x.hyper(-1, 0));
        Check.thrown("Promise 11: point -1", NO_SUCH, () -> x.hyper(0, -1));
        Check.thrown("Promise 11: no such point, twice", NO_SUCH, () -> x.hyper(7, 7));
        for (int p : FAR_OUT) {
            Twins.refused("Promise 11: point " + p, NO_SUCH, y -> y.hyper(p, 0));
            Twins.refused("Promise 11: point " + p, NO_SUCH, y -> y.hyper(0, p));
        }
        Twins.idle("Promise 11: asked", 0, Twins::busy, y -> y.hyper(0, 6));
    }

    private static void regular() {
        // Of 0 and 1 the points across are 2, .. and hyper is 0, 1; as many lines must go through the first.
        NoThrees x = Check.told("points 5;line 0 2;line 0 3;line 1 2;line 1 3;line 1 4;");
        Check.due("Promise 12: hyper of 0, 1", Check.set(0, 1), x.hyper(0, 1));
        Check.due("Promise 12: two lines and two points", true, x.regular(0, 1));
        Check.due("Promise 12: three lines through the first", false, x.regular(1, 0));
        NoThrees few = Check.told("points 4;line 0 2;line 1 2;line 1 3;");
        // Across from 0, 1 is 2; across from 2 are 0, 1, 2.
        Check.due("Promise 12: hyper of 0, 1", Check.set(0, 1, 2), few.hyper(0, 1));
        Check.due("Promise 12: one line through the first", false, few.regular(0, 1));
        Check.due("Promise 12: two lines through the first", false, few.regular(1, 0));
        few.add(Check.set(0, 3));
        Check.due("Promise 12: as many", true, few.regular(0, 1));
        few.add(Check.set(0, 3));
        Check.due("Promise 12: a line that is told twice is two", false, few.regular(0, 1));
        Check.due("Promise 12: one", false, x.regular(2, 2));
        Check.due("Promise 12: joined", false, x.regular(0, 2));
        Check.due("Promise 12: one on no line", false, Check.told("points 1;").regular(0, 0));
        Check.due("Promise 12: without lines", false, Check.told("points 2;").regular(0, 1));
        // In a ring of 64 across from 61, 63 is 62, and across from 31, 63 is nothing.
        NoThrees ring = ringOf64();
        Check.due("Promise 11: of 64", Check.set(61, 62, 63), ring.hyper(63, 61));
        Check.due("Promise 11: all of 64", -1, ring.hyper(63, 31));
        Check.due("Promise 12: three points, two lines", false, ring.regular(63, 61));
        Check.due("Promise 12: all 64 points, two lines", false, ring.regular(63, 31));
        NoThrees eight = Check.told("grid 8 8;");
        Check.due("Promise 12: two points, two lines", true, eight.regular(0, 63));
        Check.due("Promise 11: two points", 1L << 63 | 1, eight.hyper(0, 63));
        NoThrees y = Check.told("grid 3 3;");
        for (int p = 1; p < 9; p++) {
            Check.due("Promise 12: grid, 0 and " + p, p == 4 || p == 5 || p == 7 || p == 8, y.regular(0, p));
        }
        Check.thrown("Promise 12: point 9 of 9", NO_SUCH, () -> y.regular(9, 0));
        Check.thrown("Promise 12: point 9 of 9", NO_SUCH, () -> y.regular(0, 9));
        Check.thrown("Promise 12: no such point, twice", NO_SUCH, () -> y.regular(9, 9));
        Check.thrown("Promise 12: point -1", NO_SUCH, () -> y.regular(-1, 0));
        Check.thrown("Promise 12: point -1", NO_SUCH, () -> y.regular(0, -1));
        for (int p : FAR_OUT) {
            Twins.refused("Promise 12: point " + p, NO_SUCH, z -> z.regular(p, 0));
            Twins.refused("Promise 12: point " + p, NO_SUCH, z -> z.regular(0, p));
        }
        Twins.idle("Promise 12: asked", 0, Twins::busy, z -> z.regular(0, 6) ? 1 : 0);
    }

    private static void own(NoThrees x, String about, int s, int t) {
        Check.due("Promise 15: " + about, s, x.order(false));
        Check.due("Promise 15: " + about, t, x.order(true));
        Check.due("Promise 13: 0 of " + about, s * (t + 1), x.own(0, false));
        Check.due("Promise 13: 1 of " + about, s - 1, x.own(1, false));
        Check.due("Promise 13: 2 of " + about, -t - 1, x.own(2, false));
        Check.due("Promise 13: how many times 0 of " + about, 1, x.own(0, true));
        Check.due("Promise 13: how many times 1 of " + about, s * t * (s + 1) * (t + 1) / (s + t), x.own(1, true));
        Check.due("Promise 13: how many times 2 of " + about, s * s * (s * t + 1) / (s + t), x.own(2, true));
        for (int k : new int[] {-1, 3, 4, -2, Integer.MIN_VALUE, Integer.MAX_VALUE}) {
            Check.thrown("Promise 13: k " + k, ILLEGAL, () -> x.own(k, false));
            Check.thrown("Promise 13: k " + k, ILLEGAL, () -> x.own(k, true));
        }
    }

    private static void own() {
        own(Check.told("grid 2 2;"), "grid 2 2", 1, 1);
        own(Check.told("grid 8 8;"), "grid 8 8", 7, 1);
        own(Check.told("duads;"), "duads", 2, 2);
        own(Check.told("sixes;"), "sixes", 2, 4);
        own(Check.told("threes;"), "threes", 3, 3);
        NoThrees x = Check.told("sixes;");
        x.dual();
        own(x, "the dual of sixes", 4, 2);
        x = Check.told("grid 8 8;");
        x.dual();
        own(x, "the dual of grid 8 8", 1, 7);
        own(Check.told("points 2;line 0 1;"), "a line of two", 1, 0);
        own(added(64, -1L), "a line of 64", 63, 0);
        NoThrees duads = Check.told("duads;");
        int[] numbers = {6, 1, -3};
        int[] times = {1, 9, 5};
        for (int k = 0; k < 3; k++) {
            Check.due("Promise 13: duads", numbers[k], duads.own(k, false));
            Check.due("Promise 13: duads", times[k], duads.own(k, true));
        }
        NoThrees one = Check.told("points 2;line 0 1;");
        Check.due("Promise 13: s less 1 may be 0", 0, one.own(1, false));
        Check.due("Promise 13: an own number may be NONE", -1, one.own(2, false));
        Check.due("Promise 13: how many times NONE", 1, one.own(2, true));
    }

    private static void ownWithoutOrders() {
        String[] without = {"points 1;", "points 64;", "points 3;line 0 1;", "grid 2 3;", "points 4;line 0 1;line 2 3;"};
        for (String text : without) {
            NoThrees x = Check.told(text);
            for (int k = 0; k < 3; k++) {
                Check.due("Promise 13: no orders: " + text, -1, x.own(k, false));
                Check.due("Promise 13: no orders: " + text, -1, x.own(k, true));
            }
            Check.due("Promise 15: no orders: " + text, -1, x.order(false));
            Check.due("Promise 15: no orders: " + text, -1, x.order(true));
            for (int k : new int[] {-1, 3, Integer.MIN_VALUE, Integer.MAX_VALUE}) {
                Check.thrown("Promise 13: k " + k + " without orders", ILLEGAL, () -> x.own(k, true));
                Check.thrown("Promise 13: k " + k + " without orders", ILLEGAL, () -> x.own(k, false));
            }
        }
        for (int k : new int[] {-1, 3}) {
            Twins.refused("Promise 13: k " + k, ILLEGAL, y -> y.own(k, false));
            Check.thrown("Promise 13: k " + k + " without points", ILLEGAL, () -> new NoThrees().own(k, false));
        }
        Twins.idle("Promise 13: asked", -1, Twins::busy, y -> y.own(2, true));
    }

    private static void law(int want, String text) {
        Check.due("Promise 14: " + text, want, Check.told(text).law());
    }

    private static void firstLaws() {
        law(0, "points 1;");
        law(0, "points 64;");
        law(0, "points 2;line 0 1;");
        // Law 1: two points on two lines, be they long or short, the first or the last.
        law(1, "points 3;line 0 1;line 0 1;");
        law(1, "points 4;line 0 1 2;line 1 2 3;");
        law(1, "points 6;line 0 1;line 2 3;line 4 5;line 4 5;");
        law(1, "points 6;line 4 5;line 2 3;line 0 1;line 4 5;");
        law(1, "points 4;line 0 1 2 3;line 0 3;");
        // One common point is no fault.
        law(0, "grid 2 2;");
        // Law 2: the last line, or the first, has a point more.
        law(2, "points 7;line 0 1;line 2 3;line 4 5 6;");
        law(2, "points 7;line 0 1 2;line 3 4;line 5 6;");
        law(2, "points 6;line 0 1;line 2 3 4;line 5 0;");
        law(2, "grid 2 3;");
        // Law 3: a point, the first or the last, has a line less, or more.
        law(3, "points 3;line 0 1;");
        law(3, "points 3;line 1 2;");
        law(3, "points 3;line 0 2;");
        law(3, "points 3;line 0 1;line 1 2;");
        law(3, "points 3;line 0 1;line 0 2;");
        law(3, "points 5;line 0 1;line 1 2;line 2 3;line 3 0;");
    }

    private static void fourthLaw() {
        // None of a line is joined, two are, all are.
        law(4, "points 4;line 0 1;line 2 3;");
        law(4, "points 6;line 0 1 2;line 3 4 5;");
        law(4, "points 3;line 0 1;line 1 2;line 2 0;");
        law(4, "points 7;line 0 1 3;line 1 2 4;line 2 3 5;line 3 4 6;line 4 5 0;line 5 6 1;line 6 0 2;");
        law(4, "points 5;line 0 1;line 1 2;line 2 3;line 3 4;line 4 0;");
        law(0, "points 4;line 0 1;line 1 2;line 2 3;line 3 0;");
        Check.due("Promise 14: a ring of 64", 4, ringOf64().law());
        law(0, "grid 8 8;");
        law(0, "duads;");
        law(0, "sixes;");
        law(0, "threes;");
        // Two grids side by side, neither of which has a fault of its own.
        law(4, "points 8;line 0 1;line 1 2;line 2 3;line 3 0;line 4 5;line 5 6;line 6 7;line 7 4;");
        NoThrees x = Check.told("grid 3 3;");
        Check.due("Promise 14: grid", 0, x.law());
        x.add(Check.set(0, 4, 8));
        x.add(Check.set(1, 5, 6));
        x.add(Check.set(2, 3, 7));
        Check.due("Promise 14: grid with slants", 4, x.law());
    }

    private static void lawsInOrder() {
        law(1, "points 4;line 0 1 2;line 0 1;line 2 3;");
        law(1, "points 4;line 0 1;line 0 1;");
        law(1, "points 8;line 0 1 2;line 0 1 3;line 4 5 6;line 4 5 7;");
        law(2, "points 9;line 0 1;line 2 3 4;");
        law(2, "points 5;line 0 1;line 2 3 4;");
        law(3, "points 5;line 0 1;line 2 3;");
        Twins.idle("Promise 14: asked", 2, Twins::busy, NoThrees::law);
        Twins.idle("Promise 15: asked", -1, Twins::busy, y -> y.order(true));
    }

    private static void order() {
        for (int a = 2; a <= 8; a++) {
            NoThrees x = Check.told("grid " + a + " " + a + ";");
            Check.due("Promise 15: grid " + a, a - 1, x.order(false));
            Check.due("Promise 15: grid " + a, 1, x.order(true));
            x.dual();
            Check.due("Promise 15: dual of grid " + a, 1, x.order(false));
            Check.due("Promise 15: dual of grid " + a, a - 1, x.order(true));
        }
        for (int n = 2; n <= 64; n++) {
            NoThrees x = Check.told("points " + n + ";");
            Check.due("Promise 15: without lines", -1, x.order(false));
            Check.due("Promise 15: without lines", -1, x.order(true));
            x.add(n == 64 ? -1L : (1L << n) - 1);
            Check.due("Promise 15: a line of all", n - 1, x.order(false));
            Check.due("Promise 15: a line of all", 0, x.order(true));
            if (n > 2) {
                x.drop(0);
                x.add(3);
                Check.due("Promise 15: a law fails", -1, x.order(false));
                Check.due("Promise 15: a law fails", -1, x.order(true));
            }
        }
    }
}
