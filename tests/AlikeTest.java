import java.util.NoSuchElementException;

/** Promises 33 to 35: turnings, orbits, worlds alike. */
public final class AlikeTest {
    public static void main(String[] args) {
        turnings();
        hardTurnings();
        fewTurnings();
        orbits();
        like();
        hardLike();
        Check.end("AlikeTest");
    }

    private static void due(long want, String text) {
        Check.due(text + ": turnings", want, Check.told(text).turnings());
    }

    private static void turnings() {
        Check.due("no points", 1, new NoThrees().turnings());
        due(1, "points 1;");
        due(120, "points 5;");
        due(20922789888000L, "points 16;");
        due(-1, "points 17;");
        due(2, "points 2;line 0 1;");
        due(2, "points 3;line 0 1;");
        due(4, "points 4;line 0 1;line 0 1;line 2 3;");
        due(8, "points 4;line 0 1;line 2 3;");
        due(8, "points 4;line 0 1;line 0 1;line 2 3;line 2 3;");
        due(12, "grid 2 3;");
        due(1152, "grid 4 4;");
        due(6L * 120, "grid 3 5;");
        due(720, "duads;");
        due(168, "points 7;line 0 1 3;line 1 2 4;line 2 3 5;line 3 4 6;line 4 5 0;line 5 6 1;line 6 0 2;");
        due(1, "points 4;line 0 1;line 1 2;line 2 3;line 0 1 2;");
        due(2, "points 3;line 0 1;line 1 2;line 0 1 2;");
        due(1, "points 3;line 0 1;line 0 1 2;line 1 2;line 1 2;");
    }

    /** A world of 16 points whose lines are those of a list, moved by each number under a rule. */
    private static NoThrees moved(boolean byEights, int... base) {
        NoThrees x = Check.told("points 16;");
        for (int by = 0; by < 16; by++) {
            long set = 0;
            for (int p : base) {
                set |= 1L << (byEights ? (p / 2 + by / 2) % 8 * 2 + (p + by) % 2 : p ^ by);
            }
            x.add(set);
        }
        return x;
    }

    private static NoThrees rings(int... sizes) {
        int many = 0;
        for (int size : sizes) {
            many += size;
        }
        NoThrees x = Check.told("points " + many + ";");
        addRings(x, sizes);
        return x;
    }

    private static void addRings(NoThrees x, int... sizes) {
        int at = 0;
        for (int size : sizes) {
            for (int i = 0; i < size; i++) {
                x.add(1L << at + i | 1L << at + (i + 1) % size);
            }
            at += size;
        }
    }

    private static void addRooks(NoThrees x) {
        for (int p = 0; p < 16; p++) {
            for (int q = 0; q < p; q++) {
                if (p / 4 == q / 4 || p % 4 == q % 4) {
                    x.add(1L << p | 1L << q);
                }
            }
        }
    }

    /** As many are joined to each and to each two as with rooks, and yet otherwise. */
    private static void addOthers(NoThrees x) {
        for (int p = 0; p < 16; p++) {
            x.add(1L << p | 1L << p / 4 * 4 + (p + 1) % 4);
            x.add(1L << p | 1L << (p + 4) % 16);
            x.add(1L << p | 1L << (p / 4 + 1) % 4 * 4 + (p + 1) % 4);
        }
    }

    private static void hardTurnings() {
        Check.due("rings", 512, rings(8, 8).turnings());
        Check.due("a ring", 32, rings(16).turnings());
        Check.due("rings", 1440, rings(10, 3, 3).turnings());
        Check.due("rings", 6L * 6 * 6 * 6 * 24 * 8, rings(3, 3, 3, 3, 4).turnings());
        NoThrees x = Check.told("points 16;");
        addRooks(x);
        Check.due("rooks", 1152, x.turnings());
        x = Check.told("points 16;");
        addOthers(x);
        Check.due("others", 192, x.turnings());
        Check.due("16 lines of six", 11520, moved(false, 0, 1, 2, 4, 8, 15).turnings());
        Check.due("15 lines of eight and what they leave", 322560, halves().turnings());
    }

    /** Lines that are told so that sums over what goes through the points 0 and 1 are easily the same. */
    private static void fewTurnings() {
        NoThrees x = Check.told("points 16;");
        int[] sets = {13313, 50177, 14338, 51202, 22529, 43009, 21506, 41986, 12288, 3189, 3190, 3889, 3890, 3301, 3302,
            3545, 3546, 313, 314, 965, 966, 3397, 3398, 4025, 4026, 3605, 3606, 3841, 3842, 645, 646, 645, 646, 169, 170,
            949, 950, 357, 358, 889, 890};
        for (int set : sets) {
            x.add(set);
        }
        Check.due("41 lines", 4, x.turnings());
        for (int p = 0; p < 16; p++) {
            boolean changed = p < 2 || p > 9;
            Check.due("41 lines: orbit " + p, changed ? 3L << p / 2 * 2 : 1L << p, x.orbit(p));
        }
        x.image(0);
        Check.due("41 lines are like themselves", 1, x.like(0));
        x.drop(0);
        x.add(Check.set(0, 10, 12, 13));
        Check.due("a line of the 41 stands elsewhere", 1, x.like(0));
        x.drop(40);
        x.add(Check.set(0, 11, 12, 13));
        Check.due("a line of the 41 has changed", 0, x.like(0));
        NoThrees y = Check.told("points 16;");
        for (int i = 0; i < 64; i++) {
            y.add(Check.set(3, 5));
        }
        Check.due("64 lines alike", 2L * 87178291200L, y.turnings());
        Check.due("64 lines alike: orbit", Check.set(3, 5), y.orbit(3));
        y.image(0);
        y.drop(63);
        y.add(Check.set(3, 6));
        Check.due("63 lines alike and another", 0, y.like(0));
        Check.due("63 lines alike and another", 6227020800L, y.turnings());
    }

    /** Of the points as numbers of four bits: those with an even number of bits in common with each. */
    private static NoThrees halves() {
        NoThrees x = Check.told("points 16;");
        for (int v = 1; v < 16; v++) {
            long set = 0;
            for (int p = 0; p < 16; p++) {
                set |= Integer.bitCount(p & v) % 2 == 0 ? 1L << p : 0;
            }
            x.add(set);
            x.add(65535 ^ set);
        }
        return x;
    }

    private static void orbits() {
        NoThrees x = Check.told("points 7;line 0 1;line 1 2;line 2 3;line 4 5;");
        Check.due("orbit", Check.set(0, 3), x.orbit(0));
        Check.due("orbit", Check.set(0, 3), x.orbit(3));
        Check.due("orbit", Check.set(1, 2), x.orbit(2));
        Check.due("orbit", Check.set(4, 5), x.orbit(5));
        Check.due("orbit", Check.set(6), x.orbit(6));
        Check.thrown("orbit(7)", NoSuchElementException.class, () -> x.orbit(7));
        Check.thrown("orbit(-1)", NoSuchElementException.class, () -> x.orbit(-1));
        NoThrees many = Check.told("points 17;");
        Check.due("orbit of 17 points", 0, many.orbit(16));
        Check.thrown("orbit(17)", NoSuchElementException.class, () -> many.orbit(17));
        Check.due("orbit", 32767, Check.told("duads;").orbit(14));
        Check.due("orbit: rings", 0x3FF, rings(10, 3, 3).orbit(4));
        Check.due("orbit: rings", 0xFC00, rings(10, 3, 3).orbit(15));
        Check.thrown("orbit without points", NoSuchElementException.class, () -> new NoThrees().orbit(0));
    }

    private static void like() {
        NoThrees x = Check.told("points 4;line 0 1;line 1 2;");
        Check.thrown("like(-1)", NoSuchElementException.class, () -> x.like(-1));
        Check.thrown("like(3)", NoSuchElementException.class, () -> x.like(3));
        Check.thrown("like: none was made", IllegalStateException.class, () -> x.like(2));
        x.image(2);
        Check.due("like itself", 1, x.like(2));
        Check.world(x, "points 4;line 3 2;line 0 3;");
        Check.due("like", 1, x.like(2));
        Check.world(x, "points 4;line 3 2;line 0 1;");
        Check.due("not like", 0, x.like(2));
        Check.world(x, "points 5;line 0 1;line 1 2;");
        Check.due("more points", 0, x.like(2));
        Check.world(x, "points 4;line 0 1;line 1 2;line 1 2;");
        Check.due("more lines", 0, x.like(2));
        x.image(1);
        Check.world(x, "points 4;line 0 1;line 1 2;");
        Check.due("more lines in the image, the first of them alike", 0, x.like(1));
        x.restore(1);
        x.image(0);
        Check.world(x, "points 4;line 0 1;line 0 1;line 1 2;");
        Check.due("lines alike", 1, x.like(0));
        Check.world(x, "points 4;line 0 1;line 1 2;line 0 2;");
        Check.due("lines alike only there", 0, x.like(0));
        Check.world(x, "points 17;");
        Check.due("17 points", -1, x.like(0));
        x.image(1);
        Check.due("17 points in both", -1, x.like(1));
        Check.world(x, "points 16;");
        Check.due("17 points in the image", -1, x.like(1));
        Check.due("fewer points in the image", 0, x.like(0));
        Check.world(x, "points 1;");
        x.image(1);
        x.world(0);
        Check.due("no points", 0, x.like(1));
        x.image(1);
        Check.due("no points in both", 1, x.like(1));
        NoThrees y = Check.told("duads;");
        y.image(0);
        y.dual();
        Check.due("duads are like their dual", 1, y.like(0));
    }

    private static void hardLike() {
        NoThrees x = rings(8, 8);
        x.image(0);
        Check.world(x, "points 16;");
        addRings(x, 16);
        Check.due("rings", 0, x.like(0));
        Check.world(x, "points 16;");
        addRooks(x);
        x.image(1);
        Check.world(x, "points 16;");
        addOthers(x);
        Check.due("rooks and others", 0, x.like(1));
        Check.world(x, "points 6;");
        addRings(x, 6);
        x.image(2);
        Check.world(x, "points 6;");
        addRings(x, 3, 3);
        Check.due("rings of six and three", 0, x.like(2));
    }
}
