import java.util.NoSuchElementException;

/** Promises 26 to 32: walks, how far, rings, parts, ranks and codes. */
public final class CountsTest {
    public static void main(String[] args) {
        walks();
        far();
        widest();
        ring();
        parts();
        rank();
        code();
        Check.end("CountsTest");
    }

    private static String ringOf(int n) {
        StringBuilder text = new StringBuilder("points " + n + ";");
        for (int i = 0; i < n; i++) {
            text.append("line ").append(i).append(' ').append((i + 1) % n).append(';');
        }
        return text.toString();
    }

    private static void walks() {
        NoThrees x = Check.told("duads;");
        // By the own numbers 6, 1 (9 times), -3 (5 times).
        long six = 1;
        long three = 1;
        for (int k = 0; k <= 8; k++) {
            Check.due("duads: walks " + k, six + 9 + 5 * three, x.walks(k));
            six *= 6;
            three *= -3;
        }
        Check.thrown("walks(9)", IllegalArgumentException.class, () -> x.walks(9));
        Check.thrown("walks(-1)", IllegalArgumentException.class, () -> x.walks(-1));
        Check.due("no points", 0, new NoThrees().walks(0));
        Check.due("no lines", 7, Check.told("points 7;").walks(0));
        Check.due("no lines", 0, Check.told("points 7;").walks(1));
        StringBuilder text = new StringBuilder("points 64;line");
        for (int i = 0; i < 64; i++) {
            text.append(' ').append(i);
        }
        NoThrees all = Check.told(text + ";");
        long power = 1;
        for (int k = 0; k <= 8; k++) {
            long sum = power + (k % 2 == 0 ? 63 : -63);
            Check.due("all joined: walks " + k, sum % 1000000007L, all.walks(k));
            power *= 63;
        }
        NoThrees twice = Check.told("points 2;line 0 1;line 0 1;");
        Check.due("joined by two lines is joined once", 2, twice.walks(8));
    }

    private static void far() {
        NoThrees x = Check.told("points 64;line 0 1;line 1 2;line 2 3;line 3 63;");
        Check.due("far", 0, x.far(0, 0));
        Check.due("far", 2, x.far(1, 0));
        Check.due("far", 8, x.far(0, 63));
        Check.due("far", 8, x.far(63, 0));
        Check.due("no way", -1, x.far(0, 4));
        Check.due("far from itself without lines", 0, x.far(9, 9));
        Check.thrown("far(64, 0)", NoSuchElementException.class, () -> x.far(64, 0));
        Check.thrown("far(0, -1)", NoSuchElementException.class, () -> x.far(0, -1));
        Check.due("a long way", 64, Check.told(ringOf(64).replace("line 63 0;", "")).far(0, 32));
        Check.due("the longest way", 126, Check.told(ringOf(64).replace("line 63 0;", "")).far(0, 63));
        Check.due("round the other way", 2, Check.told(ringOf(60)).far(0, 59));
    }

    private static void widest() {
        Check.due("no points", -1, new NoThrees().widest());
        Check.due("one point", 0, Check.told("points 1;").widest());
        Check.due("no lines", 0, Check.told("points 64;").widest());
        Check.due("grid", 4, Check.told("grid 3 3;").widest());
        Check.due("threes", 4, Check.told("threes;").widest());
        Check.due("a line", 2, Check.told("points 3;line 0 1 2;").widest());
        Check.due("a ring", 62, Check.told(ringOf(62)).widest());
        Check.due("the longest way", 126, Check.told(ringOf(64).replace("line 63 0;", "")).widest());
        Check.due("the wider part", 6, Check.told("points 7;line 0 1;line 2 3;line 3 4;line 4 5;").widest());
    }

    private static void ring() {
        Check.due("no points", -1, new NoThrees().ring());
        Check.due("a line", -1, Check.told("points 5;line 0 1 2 3 4;").ring());
        Check.due("lines alike", 4, Check.told("points 2;line 0 1;line 0 1;").ring());
        Check.due("two common points", 4, Check.told("points 5;line 0 1 2;line 2 3 0 4;").ring());
        Check.due("a triangle", 6, Check.told("points 4;line 3 0;line 0 1;line 1 2;line 0 2;").ring());
        Check.due("duads", 8, Check.told("duads;").ring());
        Check.due("threes", 8, Check.told("threes;").ring());
        Check.due("a ring of 60", 120, Check.told(ringOf(60)).ring());
        Check.due("a way", -1, Check.told(ringOf(60).replace("line 59 0;", "")).ring());
        Check.due("the shorter of two", 10,
                Check.told(ringOf(8).replace("points 8", "points 14") + "line 8 9;line 9 10;line 10 11;line 11 12;line 12 8;").ring());
    }

    private static void parts() {
        Check.due("no points", 0, new NoThrees().parts());
        Check.due("no lines", 64, Check.told("points 64;").parts());
        Check.due("lines", 4, Check.told("points 9;line 8 0;line 0 1 2;line 3 4;line 4 5;").parts());
        Check.due("one", 1, Check.told("sixes;").parts());
        Check.due("one that is long", 1, Check.told(ringOf(64).replace("line 31 32;", "")).parts());
        Check.due("the last point", 63, Check.told("points 64;line 0 63;").parts());
    }

    private static void rank() {
        NoThrees x = Check.told("duads;");
        Check.due("duads over 2", 10, x.rank(2));
        Check.due("duads over 5", 10, x.rank(5));
        for (int p = -1; p < 12; p++) {
            int field = p;
            if (p != 2 && p != 3 && p != 5 && p != 7) {
                Check.thrown("rank(" + p + ")", IllegalArgumentException.class, () -> x.rank(field));
            }
        }
        Check.due("no lines", 0, Check.told("points 64;").rank(7));
        Check.due("no points", 0, new NoThrees().rank(2));
        // Each of four lines leaves out one point: what is told of them is 3 on the whole.
        NoThrees four = Check.told("points 4;line 1 2 3;line 0 2 3;line 0 1 3;line 0 1 2;");
        Check.due("four over 2", 4, four.rank(2));
        Check.due("four over 3", 3, four.rank(3));
        Check.due("four over 5", 4, four.rank(5));
        NoThrees three = Check.told("points 3;line 0 1;line 1 2;line 0 2;");
        Check.due("a triangle over 2", 2, three.rank(2));
        Check.due("a triangle over 3", 3, three.rank(3));
        Check.due("a triangle over 7", 3, three.rank(7));
        StringBuilder six = new StringBuilder("points 6;");
        StringBuilder eight = new StringBuilder("points 8;");
        for (int i = 0; i < 8; i++) {
            six.append(i < 6 ? "line" : "");
            eight.append("line");
            for (int j = 0; j < 8; j++) {
                six.append(j != i && i < 6 && j < 6 ? " " + j : "");
                eight.append(j != i ? " " + j : "");
            }
            six.append(i < 6 ? ";" : "");
            eight.append(';');
        }
        Check.due("six over 5", 5, Check.told(six.toString()).rank(5));
        Check.due("six over 7", 6, Check.told(six.toString()).rank(7));
        Check.due("eight over 7", 7, Check.told(eight.toString()).rank(7));
        Check.due("eight over 5", 8, Check.told(eight.toString()).rank(5));
        Check.due("a ring of 64 over 2", 63, Check.told(ringOf(64)).rank(2));
        Check.due("a ring of 64 over 3", 63, Check.told(ringOf(64)).rank(3));
        Check.due("a ring of 63 over 3", 63, Check.told(ringOf(63)).rank(3));
        Check.due("lines alike", 1, Check.told("points 3;line 0 1;line 0 1;").rank(3));
    }

    private static void code() {
        NoThrees x = Check.told("duads;");
        Check.due("duads: dimension", 5, x.code(0));
        Check.due("duads: least word", 6, x.code(1));
        Check.thrown("code(2)", IllegalArgumentException.class, () -> x.code(2));
        Check.thrown("code(-1)", IllegalArgumentException.class, () -> x.code(-1));
        Check.due("no points: dimension", 0, new NoThrees().code(0));
        Check.due("no points: least word", -1, new NoThrees().code(1));
        Check.due("no lines: dimension", 16, Check.told("points 16;").code(0));
        Check.due("no lines: least word", 1, Check.told("points 16;").code(1));
        Check.due("17: dimension", 17, Check.told("points 17;").code(0));
        Check.due("17: least word", -2, Check.told("points 17;").code(1));
        Check.due("64: dimension", 64, Check.told("points 64;").code(0));
        Check.due("one: dimension", 0, Check.told("points 3;line 0 1;line 0 1 2;line 1 2;").code(0));
        Check.due("one: least word", -1, Check.told("points 3;line 0 1;line 0 1 2;line 1 2;").code(1));
        Check.due("a ring: least word", 64, Check.told(ringOf(64)).code(1));
        Check.due("grid 5 5: dimension", 16, Check.told("grid 5 5;").code(0));
        Check.due("grid 5 5: least word", 4, Check.told("grid 5 5;").code(1));
        Check.due("seven: dimension", 3, fano().code(0));
        Check.due("seven: least word", 4, fano().code(1));
    }

    private static NoThrees fano() {
        return Check.told("points 7;line 0 1 3;line 1 2 4;line 2 3 5;line 3 4 6;line 4 5 0;line 5 6 1;line 6 0 2;");
    }
}
