import java.util.Arrays;
import java.util.NoSuchElementException;

/** The edges that Terms 2 and the promises 16 to 25 name: even and tight sets, ovoids, spreads, caps, triads. */
public final class SetEdgesTest {
    public static void main(String[] args) {
        meets();
        even();
        evens();
        evensOfSixteen();
        tight();
        ovoid();
        ovoidOrder();
        spread();
        spreadOrder();
        triesForAll();
        triesForNone();
        triesForFirst();
        cap();
        capOf27();
        capOfNine();
        triads();
        centres();
        asked();
        Check.end("SetEdgesTest");
    }

    private static final Class<NoSuchElementException> NO_SUCH = NoSuchElementException.class;
    private static final Class<IllegalArgumentException> ILLEGAL = IllegalArgumentException.class;

    private static NoThrees added(int points, long... lines) {
        NoThrees x = Check.told("points " + points + ";");
        for (long set : lines) {
            x.add(set);
        }
        return x;
    }

    private static long row(int from, int many) {
        return (many == 64 ? -1L : (1L << many) - 1) << from;
    }

    private static void meets() {
        NoThrees x = added(64, -1L, Check.set(0, 63));
        Check.due("Promise 16: all of a line of all", 64, x.meets(-1, 0));
        Check.due("Promise 16: none", 0, x.meets(0, 0));
        Check.due("Promise 16: one", 1, x.meets(1L << 63, 1));
        Check.due("Promise 16: points beside the line", 0, x.meets(Long.MAX_VALUE - 1, 1));
        for (int line : new int[] {-1, 2, 3, 63, 64, 65, Integer.MIN_VALUE, Integer.MAX_VALUE}) {
            Check.thrown("Promise 16: line " + line, NO_SUCH, () -> x.meets(-1, line));
        }
        NoThrees few = Check.told("points 3;line 0 1;");
        Check.due("Promise 16: the last point", 0, few.meets(4, 0));
        Check.thrown("Promise 16: others than points", ILLEGAL, () -> few.meets(8, 0));
        Check.thrown("Promise 16: others than points", ILLEGAL, () -> few.meets(-1, 0));
        Check.thrown("Promise 16: no line is told first", NO_SUCH, () -> few.meets(8, 1));
        Check.thrown("Promise 16: no line is told first", NO_SUCH, () -> few.meets(-1, -1));
        Check.thrown("Promise 16: no line of none", NO_SUCH, () -> new NoThrees().meets(1, 0));
        Twins.refused("Promise 16: no line", NO_SUCH, y -> y.meets(0, 4));
        Twins.refused("Promise 16: no set", ILLEGAL, y -> y.meets(128, 3));
    }

    private static void even() {
        NoThrees x = Check.told("points 6;line 0 1;line 1 2;line 2 3;");
        Check.due("Promise 17: none", 0, x.even(0));
        Check.due("Promise 17: none on a line", 0, x.even(Check.set(4, 5)));
        Check.due("Promise 17: one each", 1, x.even(Check.set(0, 2)));
        Check.due("Promise 17: one each, and those beside", 1, x.even(Check.set(1, 3, 5)));
        Check.due("Promise 17: all", 2, x.even(63));
        Check.due("Promise 17: the first line otherwise", -1, x.even(Check.set(2, 0, 1)));
        Check.due("Promise 17: the last line otherwise", -1, x.even(Check.set(0, 2, 3)));
        Check.due("Promise 17: none on the last line alone", -1, x.even(Check.set(1)));
        for (int line = 0; line < 4; line++) {
            // Two points of this line, and one of each of the others.
            NoThrees four = Check.told("points 8;line 0 1;line 2 3;line 4 5;line 6 7;");
            Check.due("Promise 17: line " + line + " otherwise", -1, four.even(0x55 | 2L << 2 * line));
            Check.due("Promise 17: line " + line + " otherwise", -1, four.even(0x55 & ~(1L << 2 * line)));
        }
        Check.due("Promise 17: lines of two and of three", 2, Check.told("points 5;line 0 1;line 2 3 4;").even(15));
        Check.due("Promise 17: a line of 64", 63, added(64, -1L).even(Long.MAX_VALUE));
        for (String text : new String[] {"points 1;", "points 5;"}) {
            Check.due("Promise 17: without lines", -1, Check.told(text).even(0));
            Check.due("Promise 17: without lines", -1, Check.told(text).even(1));
        }
        Check.thrown("Promise 17: others than points", ILLEGAL, () -> x.even(64));
        Twins.refused("Promise 17: others than points", ILLEGAL, y -> y.even(128));
    }

    private static void evens() {
        Check.due("Promise 18: without points", 1, new NoThrees().evens(0));
        for (int n = 1; n <= 16; n++) {
            NoThrees x = Check.told("points " + n + ";");
            Check.due("Promise 18: without lines all sets of " + n, 1 << n, x.evens(0));
            if (n > 1) {
                x.add(row(0, n));
                long many = 1;
                for (int m = 0; m <= n; m++) {
                    Check.due("Promise 18: " + m + " of a line of " + n, many, x.evens(m));
                    many = many * (n - m) / (m + 1);
                }
                for (int m : new int[] {-1, n + 1, 64, -2, Integer.MIN_VALUE, Integer.MAX_VALUE}) {
                    Check.due("Promise 18: " + m + " of a line of " + n, 0, x.evens(m));
                }
            }
        }
        NoThrees one = Check.told("points 4;line 1 2;");
        Check.due("Promise 18: points on no line count", 4, one.evens(0));
        Check.due("Promise 18: points on no line count", 8, one.evens(1));
        Check.due("Promise 18: points on no line count", 4, one.evens(2));
        Check.due("Promise 18: as far as the shorter line goes", 0, Check.told("points 5;line 0 1;line 2 3 4;").evens(3));
        Check.due("Promise 18: as far as the shorter line goes", 3, Check.told("points 5;line 0 1;line 2 3 4;").evens(2));
        NoThrees triangle = Check.told("points 3;line 0 1;line 1 2;line 0 2;");
        int[] many = {1, 0, 1, 0};
        for (int m = 0; m < 4; m++) {
            Check.due("Promise 18: a triangle", many[m], triangle.evens(m));
        }
    }

    private static void evensOfSixteen() {
        Check.due("Promise 18: 16 points", 65536, Check.told("points 16;").evens(5));
        Check.due("Promise 18: 17 points", -1, Check.told("points 17;").evens(5));
        Check.due("Promise 18: 64 points", -1, Check.told("points 64;").evens(0));
        NoThrees x = Check.told("grid 4 4;");
        Check.due("Promise 18: 16 points", 24, x.evens(1));
        NoThrees y = Check.told("points 17;line 0 1;");
        for (int m : new int[] {-1, 0, 1, 2, 3}) {
            Check.due("Promise 18: 17 points", -1, y.evens(m));
        }
        Check.due("Promise 18: the last of 16", 16384, Check.told("points 16;line 14 15;").evens(2));
    }

    private static void tight() {
        NoThrees grid = Check.told("grid 3 3;");
        Check.due("Promise 19: by 0", 0, grid.tight(0));
        Check.due("Promise 19: a line", 1, grid.tight(7));
        Check.due("Promise 19: two lines", 2, grid.tight(7 | 56));
        Check.due("Promise 19: all", 3, grid.tight(511));
        Check.due("Promise 19: a line but for a point", -1, grid.tight(6));
        Check.due("Promise 19: a line and a point", -1, grid.tight(15));
        Check.due("Promise 19: without lines", -1, Check.told("points 3;").tight(0));
        Check.due("Promise 19: without lines", -1, Check.told("points 3;").tight(7));
        // Lines of two: in it or not, each point is joined to i.
        NoThrees ring = Check.told("points 4;line 0 1;line 1 2;line 2 3;line 3 0;");
        Check.due("Promise 19: lines of two", 2, ring.tight(15));
        Check.due("Promise 19: lines of two", 1, ring.tight(3));
        Check.due("Promise 19: lines of two", -1, ring.tight(5));
        Check.due("Promise 19: lines of two", -1, ring.tight(1));
        // A point on no line is joined to none: it must be in no set but one by 0 less than nothing.
        Check.due("Promise 19: a point on no line", 0, Check.told("points 3;line 0 1;").tight(0));
        Check.due("Promise 19: a point on no line", 0, Check.told("points 3;line 0 1;").tight(4));
        Check.due("Promise 19: a point on no line", -1, Check.told("points 3;line 0 1;").tight(3));
        Check.due("Promise 19: less than none", -1, Check.told("points 4;line 0 1 2;").tight(8));
        Check.due("Promise 19: less than none", -1, Check.told("points 4;line 1 2 3;").tight(1));
        for (int p = 0; p < 5; p++) {
            // This point is joined to none, all others are as they should be.
            NoThrees four = Check.told("points 5;");
            four.add(31 & ~(1L << p));
            Check.due("Promise 19: point " + p + " otherwise", -1, four.tight(31 & ~(1L << p)));
            Check.due("Promise 19: point " + p + " otherwise", -1, four.tight(31));
            Check.due("Promise 19: all by 0", 0, four.tight(0));
            Check.due("Promise 19: all by 0", -1, four.tight(1L << p));
        }
        // The points of the first line are counted, not those of another.
        Check.due("Promise 19: the first line has two", 3, Check.told("points 4;line 0 1;line 0 1 2 3;").tight(15));
        Check.due("Promise 19: the first line has four", 1, Check.told("points 4;line 0 1 2 3;line 0 1;").tight(15));
        Check.due("Promise 19: the first line has three", 2, Check.told("points 4;line 0 1 2;line 0 1 2 3;").tight(15));
        Check.due("Promise 19: a line of 64", 1, added(64, -1L).tight(-1));
        Check.due("Promise 19: the last point otherwise", -1, added(64, row(0, 63)).tight(row(0, 63)));
        Check.thrown("Promise 19: others than points", ILLEGAL, () -> grid.tight(512));
        Twins.refused("Promise 19: others than points", ILLEGAL, y -> y.tight(128));
    }

    private static void ovoid(String about, NoThrees x, long first, int many) {
        Check.due("Promise 20: " + about, first, x.ovoid());
        Check.due("Promise 21: " + about, many, x.ovoids());
    }

    private static void ovoid() {
        ovoid("without points", new NoThrees(), 0, 1);
        ovoid("without lines the empty set", Check.told("points 1;"), 0, 1);
        ovoid("without lines the empty set", Check.told("points 64;"), 0, 1);
        ovoid("a line", Check.told("points 2;line 1 0;"), 1, 2);
        ovoid("a line of 64", added(64, -1L), 1, 64);
        ovoid("the last points", added(64, row(62, 2)), 1L << 62, 2);
        ovoid("of points on lines alone", Check.told("points 5;line 1 3;"), 2, 2);
        ovoid("there is none", Check.told("points 3;line 0 1;line 1 2;line 2 0;"), -1, 0);
        ovoid("there is none, seen at the first try", Check.told("points 4;line 0 1 2;line 0 1;line 1 2;line 0 2;"), -1, 0);
        ovoid("one line in another", Check.told("points 3;line 0 1 2;line 1 2;"), 2, 2);
        ovoid("lines alike", Check.told("points 3;line 0 1 2;line 0 1 2;"), 1, 3);
        StringBuilder text = new StringBuilder("points 2;");
        for (int i = 0; i < 64; i++) {
            text.append("line 0 1;");
        }
        ovoid("64 lines alike", Check.told(text.toString()), 1, 2);
        NoThrees star = Check.told("points 64;");
        for (int p = 0; p < 63; p++) {
            star.add(Check.set(p, 63));
        }
        ovoid("a star", star, Long.MAX_VALUE, 2);
        star.add(Check.set(0, 1));
        ovoid("a star with a line more", star, -1, 0);
    }

    private static void ovoidOrder() {
        // The first line comes first, and its points in order: the first that is found need not be the least.
        ovoid("by the first line", Check.told("points 4;line 2 3;line 0 1;line 1 2;line 0 3;"), Check.set(0, 2), 2);
        ovoid("by the first line", Check.told("points 4;line 3 1 2;line 0 1;line 0 2;line 0 3;"), -1, 0);
        ovoid("by the first line", Check.told("points 5;line 2 3;line 0 4;line 0 2;line 3 4;"), Check.set(2, 4), 2);
        ovoid("by the first line", Check.told("points 5;line 2 4;line 0 3;line 0 4;line 2 3;"), Check.set(0, 2), 2);
        ovoid("by the first line", Check.told("points 5;line 3 4;line 1 2;line 0 3;line 1 4 0;"), Check.set(1, 3), 1);
        ovoid("by the first line", Check.told("points 6;line 3 5;line 0 4;line 3 0 1;line 2 5;"), Check.set(2, 3, 4), 3);
        ovoid("each point is tried", Check.told("points 6;line 0 1 2;line 3 4 5;line 0 3 4 5;line 1 3 5;"), Check.set(1, 4), 3);
    }

    private static void spread(String about, NoThrees x, long first, int many) {
        Check.due("Promise 22: " + about, first, x.spread());
        Check.due("Promise 23: " + about, many, x.spreads());
    }

    private static void spread() {
        spread("without points the empty set", new NoThrees(), 0, 1);
        spread("a point without lines", Check.told("points 1;"), -1, 0);
        spread("64 points without lines", Check.told("points 64;"), -1, 0);
        spread("a line", Check.told("points 2;line 1 0;"), 1, 1);
        spread("the first point is left", Check.told("points 3;line 1 2;"), -1, 0);
        spread("the last point is left", Check.told("points 3;line 0 1;"), -1, 0);
        spread("a line of 64", added(64, -1L), 1, 1);
        spread("lines meet", Check.told("points 3;line 0 1;line 1 2;"), -1, 0);
        StringBuilder text = new StringBuilder("points 2;");
        for (int i = 0; i < 64; i++) {
            text.append("line 0 1;");
        }
        spread("64 lines alike", Check.told(text.toString()), 1, 64);
        NoThrees pairs = Check.told("points 64;");
        for (int i = 0; i < 32; i++) {
            pairs.add(3L << 2 * i);
        }
        spread("32 lines", pairs, row(0, 32), 1);
        pairs.add(3);
        spread("the first of them twice", pairs, row(0, 32), 2);
        pairs.drop(31);
        spread("the last of them is dropped", pairs, -1, 0);
        NoThrees last = Check.told("points 3;");
        for (int i = 0; i < 63; i++) {
            last.add(3);
        }
        last.add(7);
        spread("the line 63", last, 1L << 63, 1);
    }

    private static void spreadOrder() {
        // The first point comes first, and the lines through it in order.
        spread("by the first point", Check.told("points 4;line 2 3;line 0 1;line 0 1;line 2 3;"), Check.set(0, 1), 4);
        spread("by the first point", Check.told("points 4;line 1 2;line 0 2;line 0 3;line 1 3;"), Check.set(1, 3), 2);
        spread("by the first point", Check.told("points 4;line 1 2;line 0 3;line 0 1;line 2 3;"), Check.set(0, 1), 2);
        spread("by the first point", Check.told("points 4;line 1 3;line 2 3;line 0 1;line 0 2;"), Check.set(1, 2), 2);
        spread("each line is tried", Check.told("points 6;line 0 1;line 0 1 2;line 3 4;line 3 4 5;line 2 5 4;"), Check.set(1, 3), 1);
    }

    /** How many tries there are for lines without common points, of so many points each. */
    private static int triesOf(int... sizes) {
        int all = 0;
        int product = 1;
        for (int size : sizes) {
            product *= size;
            all += product;
        }
        return all;
    }

    /** Lines without common points, of so many points each, in order. */
    private static long[] apart(int... sizes) {
        long[] lines = new long[sizes.length];
        int at = 0;
        for (int i = 0; i < sizes.length; i++) {
            lines[i] = row(at, sizes[i]);
            at += sizes[i];
        }
        return lines;
    }

    /** Points to try for each line; as a world for ovoids. */
    private static NoThrees forOvoids(long[] lines) {
        return added(64, lines);
    }

    /**
     * And as a world for spreads: a point for each line, told twice, so that a line has two of them or more,
     * and a line for each point.
     */
    private static NoThrees forSpreads(long[] lines) {
        NoThrees x = Check.told("points " + 2 * lines.length + ";");
        for (int p = 0; p < 64; p++) {
            long set = 0;
            for (int i = 0; i < lines.length; i++) {
                set |= (lines[i] >>> p & 1) != 0 ? 3L << 2 * i : 0;
            }
            if (set != 0) {
                x.add(set);
            }
        }
        return x;
    }

    private static void triesForAll() {
        int[] most = {10, 9, 10, 10, 10};
        int[] more = {11, 10, 4, 2, 8, 13};
        Check.due("100,000 tries", 100000, triesOf(most));
        Check.due("100,001 tries", 100001, triesOf(more));
        Check.due("Promise 21: 100,000 tries", 90000, forOvoids(apart(most)).ovoids());
        Check.due("Promise 21: 100,001 tries", -2, forOvoids(apart(more)).ovoids());
        Check.due("Promise 23: 100,000 tries", 90000, forSpreads(apart(most)).spreads());
        Check.due("Promise 23: 100,001 tries", -2, forSpreads(apart(more)).spreads());
        // The first is found with a try for each line.
        Check.due("Promise 20: a try for each", Check.set(0, 10, 19, 29, 39), forOvoids(apart(most)).ovoid());
        Check.due("Promise 20: a try for each", Check.set(0, 11, 21, 25, 27, 35), forOvoids(apart(more)).ovoid());
        Check.due("Promise 22: a try for each", Check.set(0, 10, 19, 29, 39), forSpreads(apart(most)).spread());
        Check.due("Promise 22: a try for each", Check.set(0, 11, 21, 25, 27, 35), forSpreads(apart(more)).spread());
        NoThrees twice = forOvoids(apart(most));
        for (int i = 0; i < 2; i++) {
            Check.due("Promise 21: each call has tries of its own", 90000, twice.ovoids());
            Check.due("Promise 20: each call has tries of its own", Check.set(0, 10, 19, 29, 39), twice.ovoid());
        }
    }

    /** Behind the lines one whose points are barred, whatever is taken of the line ahead of it. */
    private static long[] barredAtLast(int... sizes) {
        long[] apart = apart(sizes);
        long[] lines = Arrays.copyOf(apart, apart.length + 2);
        lines[apart.length] = 3L << 62;
        lines[apart.length + 1] = 3L << 62 | apart[apart.length - 1];
        return lines;
    }

    private static void triesForNone() {
        int[] most = {10, 9, 10, 10, 2, 4};
        int[] more = {11, 10, 4, 2, 8, 13};
        Check.due("100,000 tries", 100000, triesOf(most));
        Check.due("100,001 tries", 100001, triesOf(more));
        Check.due("Promise 20: none in 100,000 tries", -1, forOvoids(barredAtLast(most)).ovoid());
        Check.due("Promise 21: none in 100,000 tries", 0, forOvoids(barredAtLast(most)).ovoids());
        Check.due("Promise 22: none in 100,000 tries", -1, forSpreads(barredAtLast(most)).spread());
        Check.due("Promise 23: none in 100,000 tries", 0, forSpreads(barredAtLast(most)).spreads());
        Check.due("Promise 20: 100,001 tries", -2, forOvoids(barredAtLast(more)).ovoid());
        Check.due("Promise 21: 100,001 tries", -2, forOvoids(barredAtLast(more)).ovoids());
        Check.due("Promise 22: 100,001 tries", -2, forSpreads(barredAtLast(more)).spread());
        Check.due("Promise 23: 100,001 tries", -2, forSpreads(barredAtLast(more)).spreads());
        NoThrees x = forOvoids(barredAtLast(more));
        x.drop(0);
        Check.due("Promise 20: fewer tries then", -1, x.ovoid());
        Check.due("Promise 21: fewer tries then", 0, x.ovoids());
    }

    /**
     * Behind the lines one whose points, or whose first point alone, can be taken where the last point of each
     * line is.
     */
    private static long[] openAtLast(boolean alone, int... sizes) {
        long[] apart = apart(sizes);
        int many = apart.length;
        long[] lines = Arrays.copyOf(apart, 2 * many + (alone ? 2 : 1));
        lines[many] = 3L << 62;
        for (int i = 0; i < many; i++) {
            long butLast = apart[i] & ~Long.highestOneBit(apart[i]);
            lines[many + 1 + i] = butLast | (alone ? 1L << 62 : 3L << 62);
        }
        if (alone) {
            lines[2 * many + 1] = apart[0] | 1L << 63;
        }
        return lines;
    }

    private static void triesForFirst() {
        int[] most = {9, 10, 10, 10, 10};
        int[] more = {10, 9, 10, 10, 10};
        Check.due("99,999 tries and one", 99999, triesOf(most));
        Check.due("100,000 tries and one", 100000, triesOf(more));
        // The points of the last lines, and 62: as lines for SPREADS they have the numbers of the points, and 49.
        long last = Check.set(8, 18, 28, 38, 48);
        long ovoid = last | 1L << 62;
        long spread = last | 1L << 49;
        for (boolean alone : new boolean[] {true, false}) {
            Check.due("Promise 20: found at the try 100,000", ovoid, forOvoids(openAtLast(alone, most)).ovoid());
            Check.due("Promise 22: found at the try 100,000", spread, forSpreads(openAtLast(alone, most)).spread());
            Check.due("Promise 20: it would be found at the next", -2, forOvoids(openAtLast(alone, more)).ovoid());
            Check.due("Promise 22: it would be found at the next", -2, forSpreads(openAtLast(alone, more)).spread());
            // If it isn't alone, there is a try more behind it.
            int many = alone ? 1 : -2;
            Check.due("Promise 21: tries for all", many, forOvoids(openAtLast(alone, most)).ovoids());
            Check.due("Promise 23: tries for all", many, forSpreads(openAtLast(alone, most)).spreads());
            Check.due("Promise 21: 100,001 tries", -2, forOvoids(openAtLast(alone, more)).ovoids());
            Check.due("Promise 23: 100,001 tries", -2, forSpreads(openAtLast(alone, more)).spreads());
        }
    }

    private static void cap() {
        Check.due("Promise 24: without points", 0, new NoThrees().cap());
        Check.due("Promise 24: a point", 1, Check.told("points 1;").cap());
        Check.due("Promise 24: two joined, the least as bits", 1, Check.told("points 2;line 0 1;").cap());
        Check.due("Promise 24: a line of all", 1, added(27, row(0, 27)).cap());
        Check.due("Promise 24: the greatest, not the first", 6, Check.told("points 3;line 0 1;line 0 2;").cap());
        Check.due("Promise 24: the greatest", 5, Check.told("points 3;line 0 1;line 1 2;").cap());
        Check.due("Promise 24: of like ones the least", 3, Check.told("points 4;line 0 2;line 1 3;line 0 3;line 1 2;").cap());
        Check.due("Promise 24: of like ones the least", 5, Check.told("points 4;line 0 1;line 2 3;line 0 3;line 1 2;").cap());
        // 0, 3 and 1, 2 are of two each: 6 is less than 9.
        Check.due("Promise 24: of like ones the least", 6, Check.told("points 4;line 0 1;line 0 2;line 3 1;line 3 2;").cap());
        Check.due("Promise 24: a point on no line", 9, Check.told("points 4;line 0 1 2;").cap());
        Check.due("Promise 24: three joined to each of two", 28, Check.told("points 5;line 0 2;line 0 3;line 0 4;line 1 2;line 1 3;line 1 4;").cap());
        Check.due("Promise 24: four joined to each of three", 0x78, Check.told("points 7;line 0 3;line 0 4;line 0 5;line 0 6;line 1 3;"
                + "line 1 4;line 1 5;line 1 6;line 2 3;line 2 4;line 2 5;line 2 6;").cap());
        Check.due("Promise 24: a ring of five", 5, Check.told("points 5;line 0 1;line 1 2;line 2 3;line 3 4;line 4 0;").cap());
    }

    private static void capOf27() {
        Check.due("Promise 24: 27 points", row(0, 27), Check.told("points 27;").cap());
        Check.due("Promise 24: 28 points", -1, Check.told("points 28;").cap());
        Check.due("Promise 24: 64 points", -1, Check.told("points 64;").cap());
        Check.due("Promise 24: 28 points with lines", -1, added(28, row(0, 28)).cap());
        Check.due("Promise 24: 27 points, the last joined", row(0, 26), added(27, row(25, 2)).cap());
        Check.due("Promise 24: 27 points, the first joined to all", row(1, 26), star27().cap());
        Check.due("Promise 24: sixes", 63, Check.told("sixes;").cap());
        NoThrees nine = Check.told("points 27;");
        for (int i = 0; i < 9; i++) {
            nine.add(7L << 3 * i);
        }
        Check.due("Promise 24: nine lines of three", 0x1249249, nine.cap());
    }

    /** Worlds of nine points, each cap held against all sets of points. */
    private static void capOfNine() {
        long seed = 1;
        for (int turn = 0; turn < 300; turn++) {
            NoThrees x = Check.told("points 9;");
            long[] near = new long[9];
            for (int i = 0; i < 4 + turn % 14; i++) {
                seed = seed * 6364136223846793005L + 1442695040888963407L;
                int one = (int) (seed >>> 40) % 9;
                int other = (int) (seed >>> 50) % 9;
                if (one != other) {
                    x.add(Check.set(one, other));
                    near[one] |= 1L << other;
                    near[other] |= 1L << one;
                }
            }
            long best = 0;
            for (long set = 1; set < 512; set++) {
                boolean isCap = true;
                for (int p = 0; p < 9; p++) {
                    isCap &= (set >>> p & 1) == 0 || (set & near[p]) == 0;
                }
                best = isCap && Long.bitCount(set) > Long.bitCount(best) ? set : best;
            }
            Check.due("Promise 24: the least of the greatest, turn " + turn, best, x.cap());
        }
    }

    private static NoThrees star27() {
        NoThrees x = Check.told("points 27;");
        for (int p = 1; p < 27; p++) {
            x.add(Check.set(0, p));
        }
        return x;
    }

    private static void triads() {
        for (int n = 1; n <= 64; n++) {
            NoThrees x = Check.told("points " + n + ";");
            Check.due("Promise 25: all of " + n, n * (n - 1) * (n - 2) / 6, x.triads(-1));
            Check.due("Promise 25: without centres, of " + n, n * (n - 1) * (n - 2) / 6, x.triads(0));
            Check.due("Promise 25: with one, of " + n, 0, x.triads(1));
        }
        NoThrees three = Check.told("points 3;");
        Check.due("Promise 25: three points", 1, three.triads(-1));
        three.add(6);
        Check.due("Promise 25: two of them joined", 0, three.triads(-1));
        Check.due("Promise 25: two of them joined", 0, three.triads(0));
        for (int c : new int[] {-2, -3, 4, 64, Integer.MIN_VALUE, Integer.MAX_VALUE}) {
            Check.due("Promise 25: c " + c, 0, Check.told("points 9;").triads(c));
        }
    }

    private static void centres() {
        // 0, 1, 2 and 61 points that are joined to each of them, and to one another.
        NoThrees x = added(64, row(3, 61) | 1, row(3, 61) | 2, row(3, 61) | 4);
        Check.due("Promise 25: 61 centres", 1, x.triads(61));
        Check.due("Promise 25: not 60", 0, x.triads(60));
        Check.due("Promise 25: not 62", 0, x.triads(62));
        Check.due("Promise 25: all", 1, x.triads(-1));
        NoThrees two = Check.told("points 5;line 0 3;line 1 3;line 2 3;line 0 4;line 1 4;");
        Check.due("Promise 25: joined to all three", 1, two.triads(1));
        Check.due("Promise 25: joined to two of three", 0, two.triads(2));
        Check.due("Promise 25: all", 1, two.triads(-1));
        Check.due("Promise 25: three with no centre", 0, two.triads(0));
        two.add(Check.set(2, 4));
        Check.due("Promise 25: two centres", 1, two.triads(2));
        // Without one of the lines the point 3, or 4, is joined to two of the three alone.
        for (int line = 0; line < 6; line++) {
            two.drop(line);
            Check.due("Promise 25: a centre less", 1, two.triads(1));
            Check.due("Promise 25: a centre less", 0, two.triads(2));
            two.undo();
        }
    }

    private static void asked() {
        Twins.idle("Promise 16: asked", 1, Twins::busy, y -> y.meets(127 & ~6, 0));
        Twins.idle("Promise 17: asked", -1, Twins::busy, y -> y.even(1));
        Twins.idle("Promise 18: asked", 0, Twins::busy, y -> y.evens(3));
        Twins.idle("Promise 19: asked", 0, Twins::busy, y -> y.tight(0));
        // Lines 0 1 2, 4 5 6, 0 6, 1 3 5.
        Twins.idle("Promise 20: asked", Check.set(0, 3, 4), Twins::busy, NoThrees::ovoid);
        Twins.idle("Promise 21: asked", 4, Twins::busy, NoThrees::ovoids);
        Twins.idle("Promise 22: asked", -1, Twins::busy, NoThrees::spread);
        Twins.idle("Promise 23: asked", 0, Twins::busy, NoThrees::spreads);
        Twins.idle("Promise 24: asked", Check.set(0, 3, 4), Twins::busy, NoThrees::cap);
        Twins.idle("Promise 25: asked", 0, Twins::busy, y -> y.triads(5));
    }
}
