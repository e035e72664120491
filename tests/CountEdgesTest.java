import java.util.NoSuchElementException;

/** The edges that Terms 2 and the promises 26 to 35 name: walks, ways, ranks, codes, turnings, worlds alike. */
public final class CountEdgesTest {
    public static void main(String[] args) {
        walks();
        walksModulo();
        far();
        widest();
        ring();
        parts();
        rank();
        rankByField();
        codeDimension();
        codeLeastWord();
        codeOfNine();
        turnings();
        fullForTurnings();
        orbit();
        like();
        likeOfSixteen();
        asked();
        Check.end("CountEdgesTest");
    }

    private static final Class<NoSuchElementException> NO_SUCH = NoSuchElementException.class;
    private static final Class<IllegalArgumentException> ILLEGAL = IllegalArgumentException.class;
    private static final Class<IllegalStateException> NONE_MADE = IllegalStateException.class;

    private static NoThrees added(int points, long... lines) {
        NoThrees x = Check.told("points " + points + ";");
        for (long set : lines) {
            x.add(set);
        }
        return x;
    }

    /** Lines of two, each with the next, and the last with the first if it is a ring. */
    private static NoThrees row(int points, boolean isRing) {
        NoThrees x = Check.told("points " + points + ";");
        for (int i = 0; i + 1 < points; i++) {
            x.add(3L << i);
        }
        if (isRing) {
            x.add(1L << points - 1 | 1);
        }
        return x;
    }

    private static void walks() {
        NoThrees x = Check.told("points 4;line 0 1;line 1 2;");
        // From 0 and 2 by 1, from 1 by either: ways of an even number of steps.
        int[] many = {4, 0, 4, 0, 8, 0, 16, 0, 32};
        for (int k = 0; k <= 8; k++) {
            Check.due("Promise 26: " + k + " steps", many[k], x.walks(k));
        }
        for (int k : new int[] {-1, 9, 10, -2, Integer.MIN_VALUE, Integer.MAX_VALUE}) {
            Check.thrown("Promise 26: " + k + " steps", ILLEGAL, () -> x.walks(k));
            Check.thrown("Promise 26: " + k + " steps without points", ILLEGAL, () -> new NoThrees().walks(k));
            Twins.refused("Promise 26: " + k + " steps", ILLEGAL, y -> y.walks(k));
        }
        NoThrees triangle = Check.told("points 3;line 0 1;line 1 2;line 0 2;");
        int[] round = {3, 0, 6, 6, 18, 30, 66, 126, 258};
        for (int k = 0; k <= 8; k++) {
            Check.due("Promise 26: a triangle, " + k + " steps", round[k], triangle.walks(k));
        }
        for (int n : new int[] {1, 2, 63, 64}) {
            NoThrees none = Check.told("points " + n + ";");
            Check.due("Promise 26: no step", n, none.walks(0));
            Check.due("Promise 26: none joined", 0, none.walks(1));
            Check.due("Promise 26: none joined", 0, none.walks(2));
            Check.due("Promise 26: none joined", 0, none.walks(8));
        }
        NoThrees twice = Check.told("points 3;line 0 1;line 0 1 2;");
        Check.due("Promise 26: joined by two lines is joined", 6, twice.walks(2));
    }

    /** Of n points all of which are joined: (n - 1)^k and n - 1 times (-1)^k. */
    private static void walksModulo() {
        for (int n : new int[] {2, 5, 15, 16, 17, 32, 33, 63, 64}) {
            NoThrees x = added(n, n == 64 ? -1L : (1L << n) - 1);
            long power = 1;
            for (int k = 0; k <= 8; k++) {
                long sum = power + (n - 1) * (k % 2 == 0 ? 1 : -1);
                Check.due("Promise 26: modulo, " + n + " points, " + k + " steps", sum % 1000000007L, x.walks(k));
                power *= n - 1;
            }
        }
        // 63^5 - 63 is below 1,000,000,007, and 63^6 + 63 is above it.
        Check.due("Promise 26: below it", 992436480, added(64, -1L).walks(5));
    }

    private static void far() {
        for (int p = 0; p < 64; p += 7) {
            NoThrees x = row(64, false);
            for (int q = 0; q < 64; q++) {
                Check.due("Promise 27: " + p + " to " + q, 2 * Math.abs(p - q), x.far(p, q));
            }
        }
        NoThrees y = Check.told("points 6;line 0 1;line 2 3 4;line 4 0;");
        Check.due("Promise 27: one", 0, y.far(5, 5));
        Check.due("Promise 27: joined", 2, y.far(2, 4));
        Check.due("Promise 27: by two lines", 4, y.far(3, 0));
        Check.due("Promise 27: by three lines", 6, y.far(1, 2));
        Check.due("Promise 27: no way", -1, y.far(5, 0));
        Check.due("Promise 27: no way", -1, y.far(0, 5));
        Check.due("Promise 27: no way without lines", -1, Check.told("points 64;").far(63, 0));
        NoThrees x = row(64, false);
        for (int p : new int[] {-1, 64, 65, Integer.MIN_VALUE, Integer.MAX_VALUE}) {
            Check.thrown("Promise 27: point " + p, NO_SUCH, () -> x.far(p, 0));
            Check.thrown("Promise 27: point " + p, NO_SUCH, () -> x.far(63, p));
            Check.thrown("Promise 27: point " + p, NO_SUCH, () -> x.far(p, p));
        }
        for (int p : new int[] {-1, 7}) {
            Twins.refused("Promise 27: point " + p, NO_SUCH, z -> z.far(p, 6));
            Twins.refused("Promise 27: point " + p, NO_SUCH, z -> z.far(6, p));
        }
    }

    private static void widest() {
        Check.due("Promise 28: none without points", -1, new NoThrees().widest());
        Check.due("Promise 28: a point", 0, Check.told("points 1;").widest());
        Check.due("Promise 28: no two joined", 0, Check.told("points 64;").widest());
        Check.due("Promise 28: two points", 2, Check.told("points 2;line 0 1;").widest());
        Check.due("Promise 28: the last two points", 2, added(64, 3L << 62).widest());
        Check.due("Promise 28: a line of 64", 2, added(64, -1L).widest());
        Check.due("Promise 28: a row of 64", 126, row(64, false).widest());
        Check.due("Promise 28: a ring of 64", 64, row(64, true).widest());
        Check.due("Promise 28: a ring of 63", 62, row(63, true).widest());
        NoThrees two = row(64, false);
        two.drop(20);
        // Points 0 to 20, and 21 to 63.
        Check.due("Promise 28: between which there is a way", 84, two.widest());
        NoThrees left = Check.told("points 2;line 0 1;");
        Check.due("Promise 39: no points are left", 0, left.left(0));
        Check.due("Promise 28: none without points", -1, left.widest());
    }

    private static void ring() {
        Check.due("Promise 29: without lines", -1, Check.told("points 64;").ring());
        Check.due("Promise 29: a line", -1, Check.told("points 2;line 0 1;").ring());
        Check.due("Promise 29: a line of 64", -1, added(64, -1L).ring());
        Check.due("Promise 29: two lines that meet once", -1, Check.told("points 3;line 0 1;line 1 2;").ring());
        Check.due("Promise 29: two lines that meet twice", 4, Check.told("points 2;line 0 1;line 0 1;").ring());
        Check.due("Promise 29: the last two lines", 4, Check.told("points 6;line 0 1 2;line 2 3 4;line 3 4 5;").ring());
        Check.due("Promise 29: two lines of 64", 4, added(64, -1L, -1L).ring());
        for (int n = 3; n <= 64; n++) {
            Check.due("Promise 29: a row of " + n, -1, row(n, false).ring());
            Check.due("Promise 29: a ring of " + n, 2 * n, row(n, true).ring());
        }
        NoThrees bars = row(60, false);
        bars.add(Check.set(0, 59));
        bars.add(Check.set(0, 30));
        Check.due("Promise 29: half of a ring and a line", 62, bars.ring());
        bars.add(Check.set(40, 42));
        Check.due("Promise 29: the shortest", 6, bars.ring());
        bars.add(Check.set(17, 18));
        Check.due("Promise 29: a line told twice", 4, bars.ring());
        NoThrees apart = Check.told("points 9;line 0 1;line 1 2;line 2 3;line 3 0;line 8 6;line 6 7;line 7 8;");
        Check.due("Promise 29: in another part", 6, apart.ring());
        Check.due("Promise 29: a grid", 8, Check.told("grid 2 2;").ring());
    }

    private static void parts() {
        Check.due("Promise 30: none", 0, new NoThrees().parts());
        for (int n = 1; n <= 64; n++) {
            NoThrees x = Check.told("points " + n + ";");
            Check.due("Promise 30: without lines " + n, n, x.parts());
            if (n > 1) {
                x.add(1L << n - 1 | 1);
                Check.due("Promise 30: a line, of " + n, n - 1, x.parts());
                x.add(1L << n - 1 | 1);
                Check.due("Promise 30: a line twice, of " + n, n - 1, x.parts());
            }
        }
        NoThrees x = row(64, false);
        Check.due("Promise 30: a row", 1, x.parts());
        x.drop(31);
        Check.due("Promise 30: two rows", 2, x.parts());
        x.add(Check.set(0, 63));
        Check.due("Promise 30: joined at the ends", 1, x.parts());
        Check.due("Promise 30: a line of 64", 1, added(64, -1L).parts());
    }

    private static void rank() {
        for (int p = -3; p <= 20; p++) {
            int field = p;
            if (p != 2 && p != 3 && p != 5 && p != 7) {
                Twins.refused("Promise 31: the field " + p, ILLEGAL, y -> y.rank(field));
                Check.thrown("Promise 31: the field " + p + " without points", ILLEGAL, () -> new NoThrees().rank(field));
            }
        }
        for (int p : new int[] {Integer.MIN_VALUE, Integer.MAX_VALUE, 258, 65538}) {
            Check.thrown("Promise 31: the field " + p, ILLEGAL, () -> Check.told("duads;").rank(p));
        }
        // A row of 64 and a line of three points more: no line follows from the others, in no field.
        NoThrees full = row(64, false);
        full.add(7);
        for (int p : new int[] {2, 3, 5, 7}) {
            Check.due("Promise 31: 64 over " + p, 64, full.rank(p));
            Check.due("Promise 31: a row of 64 over " + p, 63, row(64, false).rank(p));
            Check.due("Promise 31: without lines over " + p, 0, Check.told("points 64;").rank(p));
            Check.due("Promise 31: a line over " + p, 1, added(64, -1L).rank(p));
            Check.due("Promise 31: a line twice over " + p, 1, added(64, -1L, -1L).rank(p));
            Check.due("Promise 31: the last points over " + p, 1, added(64, 3L << 62).rank(p));
            Check.due("Promise 31: grid 8 8 over " + p, 15, Check.told("grid 8 8;").rank(p));
        }
        NoThrees many = Check.told("points 2;");
        for (int i = 0; i < 64; i++) {
            many.add(3);
        }
        Check.due("Promise 31: 64 lines alike", 1, many.rank(5));
    }

    /** Each of n lines leaves out one of n points: they say one thing less if n - 1 is 0 in the field. */
    private static void rankByField() {
        for (int n = 3; n <= 23; n++) {
            NoThrees x = Check.told("points " + n + ";");
            for (int i = 0; i < n; i++) {
                x.add((1L << n) - 1 & ~(1L << i));
            }
            for (int p : new int[] {2, 3, 5, 7}) {
                Check.due("Promise 31: " + n + " over " + p, (n - 1) % p == 0 ? n - 1 : n, x.rank(p));
            }
        }
        // An odd ring says all over 3, 5 and 7, an even one doesn't.
        for (int n = 3; n <= 64; n++) {
            Check.due("Promise 31: a ring of " + n + " over 2", n - 1, row(n, true).rank(2));
            Check.due("Promise 31: a ring of " + n + " over 3", n % 2 == 0 ? n - 1 : n, row(n, true).rank(3));
            Check.due("Promise 31: a ring of " + n + " over 7", n % 2 == 0 ? n - 1 : n, row(n, true).rank(7));
        }
    }

    private static void codeDimension() {
        for (int what : new int[] {-1, 2, 3, -2, Integer.MIN_VALUE, Integer.MAX_VALUE}) {
            Twins.refused("Promise 32: what " + what, ILLEGAL, y -> y.code(what));
            Check.thrown("Promise 32: what " + what + " without points", ILLEGAL, () -> new NoThrees().code(what));
            Check.thrown("Promise 32: what " + what + " above 16", ILLEGAL, () -> Check.told("points 64;").code(what));
        }
        Check.due("Promise 32: no points", 0, new NoThrees().code(0));
        for (int n = 1; n <= 64; n++) {
            Check.due("Promise 32: without lines " + n, n, Check.told("points " + n + ";").code(0));
            Check.due("Promise 32: a row of " + n, 1, row(n, false).code(0));
        }
        NoThrees full = row(64, false);
        full.add(7);
        Check.due("Promise 32: nothing but the empty set", 0, full.code(0));
        Check.due("Promise 32: nothing but the empty set", -1, full.code(1));
        Check.due("Promise 32: no points", -1, new NoThrees().code(1));
    }

    private static void codeLeastWord() {
        for (int n = 1; n <= 20; n++) {
            int want = n > 16 ? -2 : 1;
            Check.due("Promise 32: without lines " + n, want, Check.told("points " + n + ";").code(1));
        }
        Check.due("Promise 32: 64 without lines", -2, Check.told("points 64;").code(1));
        for (int n = 2; n <= 64; n++) {
            Check.due("Promise 32: a row of " + n + " is one word", n, row(n, false).code(1));
        }
        // 64 points, and rows of four: 16 of them. With a line less there are 17.
        NoThrees x = Check.told("points 64;");
        for (int i = 0; i < 64; i++) {
            if (i % 4 != 3) {
                x.add(3L << i);
            }
        }
        Check.due("Promise 32: a dimension of 16", 16, x.code(0));
        Check.due("Promise 32: the least word of 16", 4, x.code(1));
        x.drop(0);
        Check.due("Promise 32: a dimension of 17", 17, x.code(0));
        Check.due("Promise 32: spent above 16", -2, x.code(1));
        x.undo();
        x.add(Check.set(60, 63));
        Check.due("Promise 32: a line that follows from others", 16, x.code(0));
        Check.due("Promise 32: a line that follows from others", 4, x.code(1));
        x.add(Check.set(59, 60));
        Check.due("Promise 32: two rows at once", 15, x.code(0));
        Check.due("Promise 32: two rows at once", 4, x.code(1));
        NoThrees one = Check.told("points 3;line 0 1;");
        Check.due("Promise 32: a point on no line", 1, one.code(1));
        one.add(6);
        Check.due("Promise 32: all three", 3, one.code(1));
        Check.due("Promise 32: a line of three", 2, Check.told("points 3;line 0 1 2;").code(1));
    }

    /** Worlds of nine points, each code held against all sets of points. */
    private static void codeOfNine() {
        long seed = 7;
        for (int turn = 0; turn < 300; turn++) {
            NoThrees x = Check.told("points 9;");
            long[] lines = new long[turn % 9];
            for (int i = 0; i < lines.length; i++) {
                seed = seed * 6364136223846793005L + 1442695040888963407L;
                lines[i] = seed >>> 40 & 511 | 3L << (seed >>> 60 & 7);
                x.add(lines[i]);
            }
            int words = 0;
            int least = -1;
            for (int set = 0; set < 512; set++) {
                boolean isWord = true;
                for (long line : lines) {
                    isWord &= Long.bitCount(line & set) % 2 == 0;
                }
                words += isWord ? 1 : 0;
                if (isWord && set != 0 && (least < 0 || Integer.bitCount(set) < least)) {
                    least = Integer.bitCount(set);
                }
            }
            Check.due("Promise 32: turn " + turn, words, 1L << x.code(0));
            Check.due("Promise 32: the smallest set, turn " + turn, least, x.code(1));
        }
        // Of the words 1 1 1 1 0 0, 1 1 1 0 1 0 and the like the least is a sum of two.
        NoThrees x = Check.told("points 6;line 0 1;line 1 2;line 0 3 4 5;");
        Check.due("Promise 32: three words tell all", 3, x.code(0));
        Check.due("Promise 32: the least is a sum of others", 2, x.code(1));
    }

    private static void turnings() {
        Check.due("Promise 33: no points", 1, new NoThrees().turnings());
        long many = 1;
        for (int n = 1; n <= 16; n++) {
            many *= n;
            NoThrees x = Check.told("points " + n + ";");
            Check.due("Promise 33: without lines " + n, many, x.turnings());
            if (n > 1) {
                x.add((1L << n) - 1);
                Check.due("Promise 33: a line of all " + n, many, x.turnings());
                x.add(1L << n - 1 | 1);
                Check.due("Promise 33: a line of two of " + n, n == 2 ? 2 : 2 * many / n / (n - 1), x.turnings());
            }
        }
        for (int n : new int[] {17, 18, 64}) {
            Check.due("Promise 33: more than 16", -1, Check.told("points " + n + ";").turnings());
            Check.due("Promise 33: more than 16", -1, row(n, false).turnings());
        }
        Check.due("Promise 33: a row of 16", 2, row(16, false).turnings());
        Check.due("Promise 33: a ring of 16", 32, row(16, true).turnings());
        // Lines alike as many times.
        Check.due("Promise 33: lines once", 8, Check.told("points 4;line 0 1;line 2 3;").turnings());
        Check.due("Promise 33: one of them twice", 4, Check.told("points 4;line 0 1;line 2 3;line 2 3;").turnings());
        Check.due("Promise 33: both twice", 8, Check.told("points 4;line 0 1;line 2 3;line 2 3;line 1 0;").turnings());
        Check.due("Promise 33: twice and three times", 4,
                Check.told("points 4;line 0 1;line 2 3;line 2 3;line 1 0;line 0 1;").turnings());
    }

    /** 16 points and 64 lines: each of eight points with each of eight others. */
    private static void fullForTurnings() {
        NoThrees x = Check.told("grid 8 8;");
        x.dual();
        Check.due("Promise 38: 64 lines", 64, x.count(1));
        Check.due("Promise 33: 64 lines", 2L * 40320 * 40320, x.turnings());
        for (int p = 0; p < 16; p++) {
            Check.due("Promise 34: 64 lines", 0xFFFF, x.orbit(p));
        }
        x.image(0);
        Check.due("Promise 35: 64 lines", 1, x.like(0));
        long line = x.drop(63);
        Check.due("Promise 35: 63 lines", 0, x.like(0));
        Check.due("Promise 33: 63 lines", 2L * 5040 * 5040, x.turnings());
        Check.due("Promise 34: 63 lines", line, x.orbit(Long.numberOfTrailingZeros(line)));
        Check.due("Promise 34: 63 lines", 0xFFFF & ~line, x.orbit(Long.numberOfTrailingZeros(~line)));
        x.add(x.line(0));
        Check.due("Promise 35: another 64th line", 0, x.like(0));
        x.undo();
        x.add(line);
        Check.due("Promise 35: the 64th line again", 1, x.like(0));
        x.add(x.drop(5));
        Check.due("Promise 35: in another order", 1, x.like(0));
    }

    private static void orbit() {
        NoThrees x = Check.told("points 16;line 0 1;line 0 2;line 3 4;");
        Check.due("Promise 34: alone", 1, x.orbit(0));
        Check.due("Promise 34: two", 6, x.orbit(1));
        Check.due("Promise 34: two", 24, x.orbit(4));
        Check.due("Promise 34: the others", 0xFFE0, x.orbit(15));
        Check.due("Promise 34: 16 points", 0xFFFF, Check.told("points 16;").orbit(0));
        NoThrees more = Check.told("points 17;line 0 1;");
        for (int p : new int[] {0, 2, 16}) {
            Check.due("Promise 34: more than 16 points", 0, more.orbit(p));
        }
        Check.due("Promise 34: 64 points", 0, Check.told("points 64;").orbit(63));
        Check.thrown("Promise 34: point 16 of 16", NO_SUCH, () -> x.orbit(16));
        Check.thrown("Promise 34: point 17 of 17", NO_SUCH, () -> more.orbit(17));
        Check.thrown("Promise 34: point 64 of 64", NO_SUCH, () -> Check.told("points 64;").orbit(64));
        for (int p : new int[] {-1, -2, 64, Integer.MIN_VALUE, Integer.MAX_VALUE}) {
            Check.thrown("Promise 34: point " + p, NO_SUCH, () -> x.orbit(p));
            Check.thrown("Promise 34: point " + p + " of 17", NO_SUCH, () -> more.orbit(p));
            Twins.refused("Promise 34: point " + p, NO_SUCH, y -> y.orbit(p));
        }
        Twins.refused("Promise 34: point 7", NO_SUCH, y -> y.orbit(7));
    }

    private static void like() {
        for (int i : new int[] {-1, 3, 4, -2, Integer.MIN_VALUE, Integer.MAX_VALUE}) {
            Check.thrown("Promise 35: image " + i + " where none was made", NO_SUCH, () -> new NoThrees().like(i));
            Check.thrown("Promise 35: image " + i + ", more than 16", NO_SUCH, () -> Check.told("points 17;").like(i));
            Twins.refused("Promise 35: image " + i, NO_SUCH, y -> y.like(i));
        }
        for (int i = 0; i < 3; i++) {
            int image = i;
            NoThrees x = Check.told("points 17;");
            Check.thrown("Promise 35: none was made, more than 16", NONE_MADE, () -> x.like(image));
            Check.world(x, "points 4;line 0 1;line 2 3;");
            Check.thrown("Promise 35: none was made", NONE_MADE, () -> x.like(image));
            x.image(image);
            Check.due("Promise 35: image " + i, 1, x.like(image));
            Check.world(x, "points 4;line 1 3;line 0 2;");
            Check.due("Promise 35: carried", 1, x.like(image));
            Check.world(x, "points 4;line 1 3;line 0 3;");
            Check.due("Promise 35: not carried", 0, x.like(image));
            Check.world(x, "points 4;line 1 3;line 0 2;line 1 3;");
            Check.due("Promise 35: a line more", 0, x.like(image));
            Check.world(x, "points 4;line 1 3;");
            Check.due("Promise 35: a line less", 0, x.like(image));
            Check.world(x, "points 5;line 0 1;line 2 3;");
            Check.due("Promise 35: a point more", 0, x.like(image));
            Check.world(x, "points 3;line 0 1;line 0 1;");
            Check.due("Promise 35: a point less", 0, x.like(image));
            x.world(0);
            Check.due("Promise 35: without points", 0, x.like(image));
            x.image(image);
            Check.due("Promise 35: without points in both", 1, x.like(image));
        }
        Twins.refused("Promise 35: none was made", NONE_MADE, y -> y.like(1));
    }

    private static void likeOfSixteen() {
        int[] sizes = {15, 16, 17, 64};
        for (int n : sizes) {
            for (int m : sizes) {
                NoThrees x = Check.told("points " + n + ";line 0 1;");
                x.image(2);
                Check.world(x, "points " + m + ";line 14 7;");
                Check.due("Promise 35: " + n + " and " + m, n > 16 || m > 16 ? -1 : n == m ? 1 : 0, x.like(2));
            }
        }
        // Lines alike as many times, in both.
        NoThrees x = Check.told("points 4;line 0 1;line 0 1;line 2 3;");
        x.image(0);
        Check.world(x, "points 4;line 0 1;line 2 3;line 2 3;");
        Check.due("Promise 35: the other one twice", 1, x.like(0));
        Check.world(x, "points 4;line 0 1;line 0 1;line 1 2;");
        Check.due("Promise 35: the other one elsewhere", 0, x.like(0));
        Check.world(x, "points 4;line 0 1;line 0 1;line 0 1;");
        Check.due("Promise 35: three times", 0, x.like(0));
        // As many lines through each point and of each line, and yet not.
        NoThrees y = row(6, true);
        y.image(0);
        Check.world(y, "points 6;line 0 1;line 1 2;line 2 0;line 3 4;line 4 5;line 5 3;");
        Check.due("Promise 35: rings of three", 0, y.like(0));
        Check.world(y, "points 6;line 5 3;line 3 1;line 1 2;line 2 4;line 4 0;line 0 5;");
        Check.due("Promise 35: a ring of six", 1, y.like(0));
    }

    private static void asked() {
        // Lines 0 1 2, 4 5 6, 0 6, 1 3 5.
        Twins.idle("Promise 26: asked", 20, Twins::busy, y -> y.walks(2));
        Twins.idle("Promise 27: asked", 6, Twins::busy, y -> y.far(2, 4));
        Twins.idle("Promise 28: asked", 6, Twins::busy, NoThrees::widest);
        Twins.idle("Promise 29: asked", 8, Twins::busy, NoThrees::ring);
        Twins.idle("Promise 30: asked", 1, Twins::busy, NoThrees::parts);
        Twins.idle("Promise 31: asked", 4, Twins::busy, y -> y.rank(3));
        Twins.idle("Promise 31: asked", 4, Twins::busy, y -> y.rank(2));
        Twins.idle("Promise 32: asked", 3, Twins::busy, y -> y.code(0));
        Twins.idle("Promise 32: asked", 3, Twins::busy, y -> y.code(1));
        Twins.idle("Promise 33: asked", 2, Twins::busy, NoThrees::turnings);
        Twins.idle("Promise 34: asked", Check.set(0, 6), Twins::busy, y -> y.orbit(6));
        Twins.idle("Promise 35: asked", 0, Twins::busy, y -> y.like(0));
    }
}
