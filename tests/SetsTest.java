import java.util.NoSuchElementException;

/** Promises 16 to 25: sets that lines meet evenly, tight ones, ovoids and spreads, caps, triads. */
public final class SetsTest {
    public static void main(String[] args) {
        meets();
        even();
        evens();
        tight();
        ovoids();
        spreads();
        spent();
        cap();
        triads();
        Check.end("SetsTest");
    }

    private static void meets() {
        NoThrees x = Check.told("grid 3 3;");
        Check.due("meets", 2, x.meets(3, 0));
        Check.due("meets", 0, x.meets(0, 0));
        Check.due("meets", 3, x.meets(511, 5));
        Check.thrown("meets: no line", NoSuchElementException.class, () -> x.meets(1, 6));
        Check.thrown("meets: no line", NoSuchElementException.class, () -> x.meets(1, -1));
        Check.thrown("meets: no set", IllegalArgumentException.class, () -> x.meets(512, 5));
        Check.thrown("meets: the line first", NoSuchElementException.class, () -> x.meets(512, 6));
    }

    private static void even() {
        NoThrees x = Check.told("grid 3 3;");
        Check.due("even", 1, x.even(273));
        Check.due("even", 0, x.even(0));
        Check.due("even", 3, x.even(511));
        Check.due("not even", -1, x.even(7));
        Check.thrown("even(512)", IllegalArgumentException.class, () -> x.even(512));
        NoThrees none = Check.told("points 4;");
        Check.due("even without lines", -1, none.even(3));
        Check.due("even without lines", -1, none.even(0));
        Check.thrown("even(16) without lines", IllegalArgumentException.class, () -> none.even(16));
    }

    private static void evens() {
        NoThrees x = Check.told("grid 4 4;");
        int[] many = {1, 24, 90, 24, 1};
        for (int m = 0; m < 5; m++) {
            Check.due("evens " + m, many[m], x.evens(m));
        }
        Check.due("evens 5", 0, x.evens(5));
        Check.due("evens -1", 0, x.evens(-1));
        Check.due("evens most", 0, x.evens(Integer.MAX_VALUE));
        Check.due("evens least", 0, x.evens(Integer.MIN_VALUE));
        Check.due("evens without lines", 65536, Check.told("points 16;").evens(3));
        Check.due("evens without lines", 8, Check.told("points 3;").evens(-7));
        Check.due("evens of 17", -1, Check.told("points 17; line 0 1;").evens(1));
        Check.due("evens beside lines", 2 * 4, Check.told("points 4; line 0 3;").evens(1));
        Check.due("evens of a long line", 12870, Check.told("points 16;line 0 1 2 3 4 5 6 7 8 9 10 11 12 13 14 15;").evens(8));
    }

    private static void tight() {
        NoThrees x = Check.told("grid 3 3;");
        Check.due("tight: a line", 1, x.tight(7));
        Check.due("tight: two lines", 2, x.tight(63));
        Check.due("tight: nothing", 0, x.tight(0));
        Check.due("tight: all", 3, x.tight(511));
        Check.due("tight: a point", -1, x.tight(1));
        Check.due("tight: an ovoid", -1, x.tight(273));
        Check.thrown("tight(512)", IllegalArgumentException.class, () -> x.tight(512));
        Check.due("tight without lines", -1, Check.told("points 4;").tight(0));
        Check.due("tight of two on lines", 0, Check.told("points 4; line 0 1; line 1 2;").tight(0));
        NoThrees two = Check.told("points 4; line 0 1; line 2 3;");
        Check.due("tight of two-point lines", 1, two.tight(15));
        Check.due("tight by the first line", 3, Check.told("points 4; line 0 1; line 0 1 2 3;").tight(15));
        Check.due("tight by the first line", 1, Check.told("points 4; line 0 1 2 3; line 0 1;").tight(15));
    }

    private static void ovoids() {
        NoThrees x = Check.told("grid 4 4;");
        Check.due("grid: ovoids", 24, x.ovoids());
        Check.due("grid: ovoid", Check.set(0, 5, 10, 15), x.ovoid());
        x = Check.told("sixes;");
        Check.due("sixes: ovoids", 0, x.ovoids());
        Check.due("sixes: ovoid", -1, x.ovoid());
        x = Check.told("points 5;");
        Check.due("no lines: ovoids", 1, x.ovoids());
        Check.due("no lines: ovoid", 0, x.ovoid());
        x = Check.told("points 6; line 1 2; line 4 5;");
        Check.due("points on lines alone", 4, x.ovoids());
        Check.due("the first of them", Check.set(1, 4), x.ovoid());
        x = Check.told("points 5; line 2 3 4; line 0 3; line 0 2;");
        Check.due("the first sought, not the least", Check.set(0, 4), x.ovoid());
        x = Check.told("points 3; line 0 1; line 1 2; line 0 2;");
        Check.due("a triangle has none", -1, x.ovoid());
        Check.due("a triangle has none", 0, x.ovoids());
        x = Check.told("points 2; line 0 1; line 0 1;");
        Check.due("lines alike", 2, x.ovoids());
    }

    private static void spreads() {
        NoThrees x = Check.told("grid 3 3;");
        Check.due("grid: spreads", 2, x.spreads());
        Check.due("grid: spread", 7, x.spread());
        x = Check.told("points 4;");
        Check.due("no lines: spreads", 0, x.spreads());
        Check.due("no lines: spread", -1, x.spread());
        x = new NoThrees();
        Check.due("no points: spreads", 1, x.spreads());
        Check.due("no points: spread", 0, x.spread());
        x = Check.told("points 4; line 2 3; line 0 1; line 2 3; line 1 2;");
        Check.due("lines alike are two", 2, x.spreads());
        Check.due("the first", Check.set(0, 1), x.spread());
        x = Check.told("points 3; line 0 1; line 1 2;");
        Check.due("a point too many", -1, x.spread());
        x = Check.told("duads;");
        Check.due("duads: spreads", 6, x.spreads());
        x = Check.told("sixes;");
        Check.due("sixes: spread", 9, Long.bitCount(x.spread()));
        // Each point has one of the lines, so it's met evenly when turned round.
        long spread = x.spread();
        x.dual();
        Check.due("sixes: spread is an ovoid of the dual", 1, x.even(spread));
    }

    /** Lines without common points, of so many points each. */
    private static String apart(int... sizes) {
        StringBuilder text = new StringBuilder();
        int at = 0;
        for (int size : sizes) {
            text.append("line");
            for (int i = 0; i < size; i++) {
                text.append(' ').append(at + i);
            }
            text.append(';');
            at += size;
        }
        return "points " + at + ";" + text;
    }

    private static void spent() {
        NoThrees x = Check.told(apart(10, 9, 10, 10, 10));
        Check.due("100,000 tries", 90000, x.ovoids());
        x = Check.told(apart(11, 10, 4, 2, 8, 13));
        Check.due("100,001 tries", -2, x.ovoids());
        Check.due("the first is found early", Check.set(0, 11, 21, 25, 27, 35), x.ovoid());
        x = Check.told(apart(2, 2, 2, 2, 2, 2, 2, 2, 2, 2, 2, 2, 2, 2, 2));
        Check.due("65,534 tries", 32768, x.ovoids());
        int[] more = {2, 2, 2, 2, 2, 2, 2, 2, 2, 2, 2, 2, 2, 2, 2, 2};
        x = Check.told(apart(more));
        Check.due("131,070 tries", -2, x.ovoids());
        String end = "line 61 62;line 62 63;line 61 63;";
        x = Check.told(apart(2, 2, 2, 2, 2, 2, 2, 2, 2, 2, 2, 2, 2, 2).replace("points 28", "points 64") + end);
        Check.due("65,534 tries for none", -1, x.ovoid());
        Check.due("65,534 tries for none", 0, x.ovoids());
        x = Check.told(apart(2, 2, 2, 2, 2, 2, 2, 2, 2, 2, 2, 2, 2, 2, 2).replace("points 30", "points 64") + end);
        Check.due("131,070 tries for none", -2, x.ovoid());
        Check.due("131,070 tries for none", -2, x.ovoids());
        x = Check.told("points 64;" + end + apart(2, 2, 2, 2, 2, 2, 2, 2, 2, 2, 2, 2, 2, 2, 2).substring(10));
        Check.due("two tries for none", -1, x.ovoid());
        // Points with two lines each that are alike, and behind them some that can't be had at once.
        StringBuilder text = new StringBuilder("points 35;");
        for (int i = 0; i < 15; i++) {
            text.append("line ").append(2 * i).append(' ').append(2 * i + 1).append(';');
            text.append("line ").append(2 * i).append(' ').append(2 * i + 1).append(';');
        }
        x = Check.told(text.toString().replace("points 35", "points 30"));
        Check.due("65,534 tries", 32768, x.spreads());
        x = Check.told(text + "line 30 31;line 30 31;line 32 33;");
        Check.due("tries for no spread", -2, x.spread());
        Check.due("tries for no spread", -2, x.spreads());
    }

    private static void cap() {
        Check.due("cap of nothing", 0, new NoThrees().cap());
        Check.due("cap without lines", (1 << 27) - 1, Check.told("points 27;").cap());
        Check.due("cap of 28", -1, Check.told("points 28; line 0 1;").cap());
        Check.due("cap: grid", Check.set(2, 4, 6), Check.told("grid 3 3;").cap());
        Check.due("cap: duads", 31, Check.told("duads;").cap());
        Check.due("cap: sixes", 63, Check.told("sixes;").cap());
        Check.due("cap: a line", 1, Check.told("points 5; line 0 1 2 3 4;").cap());
        Check.due("cap: the least as bits", Check.set(0, 2), Check.told("points 4; line 2 1; line 0 3; line 0 1; line 2 3;").cap());
        Check.due("cap: the greatest", Check.set(1, 2, 3), Check.told("points 4; line 0 1; line 0 2; line 0 3;").cap());
        StringBuilder ring = new StringBuilder("points 27;");
        for (int i = 0; i < 27; i++) {
            ring.append("line ").append(i).append(' ').append((i + 1) % 27).append(';');
        }
        // Thirteen of a ring of 27: the least bits are every other one, from 0 on.
        Check.due("cap: ring", 0x1555555, Check.told(ring.toString()).cap());
    }

    private static void triads() {
        NoThrees x = Check.told("grid 3 3;");
        Check.due("triads", 6, x.triads(-1));
        Check.due("triads of none", 6, x.triads(0));
        Check.due("triads of one", 0, x.triads(1));
        Check.due("triads of -2", 0, x.triads(-2));
        x = Check.told("duads;");
        // Of 15 points with 8 apart from each: those of a star of three centres, or of one.
        Check.due("duads: triads", 15 * 8 * 4 / 6, x.triads(-1));
        Check.due("duads: of three", 20, x.triads(3));
        Check.due("duads: of one", 60, x.triads(1));
        Check.due("duads: of two", 0, x.triads(2));
        x = Check.told("points 4; line 0 3; line 1 3; line 2 3;");
        Check.due("a triad with one centre", 1, x.triads(1));
        Check.due("no other triad", 1, x.triads(-1));
        Check.due("64 points", 41664, Check.told("points 64;").triads(-1));
        Check.due("64 points", 41664, Check.told("points 64;").triads(0));
        Check.due("64 points", 0, Check.told("points 64;").triads(64));
    }
}
