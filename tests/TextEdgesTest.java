import java.util.NoSuchElementException;

/** The edges that Terms 1 and the promises 1 to 4 name: new objects, the tape, texts and their faults. */
public final class TextEdgesTest {
    public static void main(String[] args) {
        newObject();
        newObjectAsked();
        feedTillFull();
        feedOrder();
        worldOfSoManyBytes();
        worldWithFault();
        fault();
        pointsAndLines();
        grids();
        duadsAndSixes();
        threes();
        blanks();
        signs();
        tokens();
        firstAlongTheText();
        standsThere();
        bounds();
        sixtyFifth();
        Check.end("TextEdgesTest");
    }

    private static final int BLANKS = 0x20202020;

    private static void newObject() {
        NoThrees x = new NoThrees();
        Check.due("Promise 1: no points", 0, x.count(0));
        Check.due("Promise 1: no lines", 0, x.count(1));
        Check.due("Promise 1: an empty tape", 0, x.count(2));
        Check.due("Promise 1: nothing to be undone", 0, x.count(3));
        Check.due("Promise 1: nothing to be done again", 0, x.count(4));
        Check.due("Promise 1: undo", false, x.undo());
        Check.due("Promise 1: again", false, x.again());
        Check.due("Promise 4: at first no fault", 0, x.fault(0));
        Check.due("Promise 4: at first no place", -1, x.fault(1));
        for (int tray = 0; tray < 4; tray++) {
            int row = tray;
            Check.thrown("Promise 1: tray " + tray, IllegalStateException.class, () -> x.perform(row));
            Check.thrown("Promise 1: tray " + tray, IllegalStateException.class, () -> x.pour(row));
            Check.thrown("Promise 1: tray " + tray, IllegalStateException.class, () -> x.write(row, 0, 0));
        }
        for (int i = 0; i < 3; i++) {
            int image = i;
            Check.thrown("Terms 3: image " + i, IllegalStateException.class, () -> x.restore(image));
            Check.thrown("Terms 3: image " + i, IllegalStateException.class, () -> x.like(image));
        }
        Check.thrown("Promise 3: world(1) of an empty tape", IllegalArgumentException.class, () -> x.world(1));
        Check.due("Promise 2: the first twenty", 20, x.feed(0, 0, 0, 0, 0));
        Check.due("the constant NONE", -1, NoThrees.NONE);
        Check.due("the constant SPENT", -2, NoThrees.SPENT);
    }

    private static void newObjectAsked() {
        NoThrees x = new NoThrees();
        for (int p : new int[] {-1, 0, 1}) {
            Check.thrown("Promise 5: line " + p + " of none", NoSuchElementException.class, () -> x.line(p));
            Check.thrown("Promise 6: point " + p + " of none", NoSuchElementException.class, () -> x.through(p));
            Check.thrown("Promise 7: point " + p + " of none", NoSuchElementException.class, () -> x.joined(p, p));
            Check.thrown("Promise 8: point " + p + " of none", NoSuchElementException.class, () -> x.near(p));
            Check.thrown("Promise 11: point " + p + " of none", NoSuchElementException.class, () -> x.hyper(p, p));
            Check.thrown("Promise 12: point " + p + " of none", NoSuchElementException.class, () -> x.regular(p, p));
            Check.thrown("Promise 16: line " + p + " of none", NoSuchElementException.class, () -> x.meets(0, p));
            Check.thrown("Promise 27: point " + p + " of none", NoSuchElementException.class, () -> x.far(p, p));
            Check.thrown("Promise 34: point " + p + " of none", NoSuchElementException.class, () -> x.orbit(p));
            Check.thrown("Promise 37: line " + p + " of none", NoSuchElementException.class, () -> x.drop(p));
            Check.thrown("Promise 39: point " + p + " of none", NoSuchElementException.class, () -> x.left(p));
        }
        for (long set : new long[] {1, 1L << 63, -1}) {
            Check.thrown("Promise 9: others than points", IllegalArgumentException.class, () -> x.across(set));
            Check.thrown("Promise 10: others than points", IllegalArgumentException.class, () -> x.spanned(set));
            Check.thrown("Promise 17: others than points", IllegalArgumentException.class, () -> x.even(set));
            Check.thrown("Promise 19: others than points", IllegalArgumentException.class, () -> x.tight(set));
            Check.thrown("Promise 36: others than points", IllegalArgumentException.class, () -> x.add(set));
        }
        Check.thrown("Promise 36: fewer than two points", IllegalArgumentException.class, () -> x.add(0));
        Check.due("Promise 9: without points", 0, x.across(0));
        Check.due("Promise 10: without points", 0, x.spanned(0));
        Check.due("Promise 13: without points", -1, x.own(0, false));
        Check.due("Promise 14: without points", 0, x.law());
        Check.due("Promise 15: without points", -1, x.order(false));
        Check.due("Promise 15: without points", -1, x.order(true));
        Check.due("Promise 17: without lines", -1, x.even(0));
        Check.due("Promise 18: the empty set alone", 1, x.evens(0));
        Check.due("Promise 19: without lines", -1, x.tight(0));
        Check.due("Promise 20: without lines the empty set", 0, x.ovoid());
        Check.due("Promise 21: without lines the empty set", 1, x.ovoids());
        Check.due("Promise 22: without points the empty set", 0, x.spread());
        Check.due("Promise 23: without points the empty set", 1, x.spreads());
        Check.due("Promise 24: without points", 0, x.cap());
        Check.due("Promise 25: without points", 0, x.triads(-1));
        Check.due("Promise 25: without points", 0, x.triads(0));
        for (int k = 0; k <= 8; k++) {
            Check.due("Promise 26: without points", 0, x.walks(k));
        }
        Check.due("Promise 28: none without points", -1, x.widest());
        Check.due("Promise 29: without points", -1, x.ring());
        Check.due("Promise 30: without points", 0, x.parts());
        for (int p : new int[] {2, 3, 5, 7}) {
            Check.due("Promise 31: without points", 0, x.rank(p));
        }
        Check.due("Promise 32: without points", 0, x.code(0));
        Check.due("Promise 32: no such set", -1, x.code(1));
        Check.due("Promise 33: nothing is changed in one way", 1, x.turnings());
        Check.due("Promise 38: dual of nothing", 0, x.dual());
        Check.due("Promise 38: it is an act", 1, x.count(3));
    }

    private static void feedTillFull() {
        // 700 bytes that are one text to the last of them.
        StringBuilder text = new StringBuilder("points 9;");
        while (text.length() < 691) {
            text.append("\n       ".substring(text.length() % 2)).append("  ");
        }
        text.setLength(691);
        text.append("line 7 8;");
        NoThrees x = new NoThrees();
        Check.feed(x, text.substring(0, 680));
        Check.due("Promise 2: 680 bytes", 680, x.count(2));
        Check.feed(x, text.substring(680));
        Check.due("Promise 2: the 700th byte is taken", 700, x.count(2));
        Check.due("Promise 2: none beyond 700", -1, x.feed(0x58585858, 0x58585858, 0x58585858, 0x58585858, 0x58585858));
        Check.due("Promise 2: none beyond 700 again", -1, x.feed(0, 0, 0, 0, 0));
        Check.due("Promise 2: nothing has changed", 700, x.count(2));
        Check.thrown("Promise 3: one above 700", IllegalArgumentException.class, () -> x.world(701));
        Check.due("Promise 3: a text of 700 bytes", 1, x.world(700));
        Check.due("Promise 2: the bytes stayed", Check.set(7, 8), x.line(0));
        Check.due("Promise 3: the tape is empty then", 0, x.count(2));
        for (int i = 1; i <= 35; i++) {
            Check.due("Promise 2: feed " + i, 20 * i, x.feed(BLANKS, BLANKS, BLANKS, BLANKS, i == 35 ? 0x2020203B : BLANKS));
        }
        Check.due("Promise 2: none beyond 700", -1, x.feed(BLANKS, BLANKS, BLANKS, BLANKS, BLANKS));
        Check.due("Promise 3: the last byte can't stand there", -12, x.world(700));
        Check.due("Promise 4: its place", 699, x.fault(1));
        Twins.idle("Promise 2: full", -1, y -> {
            Twins.busy(y);
            for (int i = 1; i < 35; i++) {
                y.feed(i == 2 ? 0x3B3B3B3B : BLANKS, BLANKS, BLANKS, BLANKS, BLANKS);
            }
        }, y -> y.feed(1, 2, 3, 4, 5));
    }

    /** A byte that begins no token is seen at the place where it stands. */
    private static void feedOrder() {
        for (int place = 0; place < 20; place++) {
            for (int before : new int[] {0, 20, 680}) {
                for (int sign : new int[] {'!', 0, 127, 128, 255}) {
                    NoThrees x = new NoThrees();
                    for (int i = 0; i < before; i += 20) {
                        x.feed(BLANKS, BLANKS, 0x20200A20, BLANKS, BLANKS);
                    }
                    int[] words = {BLANKS, BLANKS, BLANKS, BLANKS, BLANKS};
                    int shift = 24 - place % 4 * 8;
                    words[place / 4] = words[place / 4] & ~(255 << shift) | sign << shift;
                    x.feed(words[0], words[1], words[2], words[3], words[4]);
                    Check.due("Promise 2: byte " + sign + " at " + (before + place), -11, x.world(before + 20));
                    Check.due("Promise 2: its place", before + place, x.fault(1));
                }
            }
        }
    }

    private static void worldOfSoManyBytes() {
        String text = "grid 2 3;line 0 5;";
        for (int n : new int[] {-1, 21, 22, 701, Integer.MIN_VALUE, Integer.MAX_VALUE}) {
            Twins.refused("Promise 3: world(" + n + ") of 20", IllegalArgumentException.class, x -> x.world(n));
        }
        Twins.refused("Promise 3: world(1) of none", IllegalArgumentException.class, x -> {
        }, x -> x.world(1));
        for (int n = 0; n <= 20; n++) {
            NoThrees x = new NoThrees();
            Twins.busy(x);
            int lines = n == 0 ? 0 : n == 9 ? 5 : n >= 18 ? 6 : -12;
            Check.due("Promise 3: the first " + n + " of " + text, lines, x.world(n));
            Check.due("Promise 3: the tape is empty then", 0, x.count(2));
            Check.due("Promise 4: the fault", lines < 0 ? 2 : 0, x.fault(0));
            // A word that is cut short stands where it begins.
            int place = n < 4 ? 0 : n >= 10 && n <= 12 ? 9 : n;
            Check.due("Promise 4: its place", lines < 0 ? place : -1, x.fault(1));
            Check.due("Promise 3: points", n == 0 ? 0 : lines < 0 ? 7 : 6, x.count(0));
            Check.due("Promise 3: lines", lines < 0 ? 4 : lines, x.count(1));
            Check.due("Promise 3: what can be undone", lines < 0 ? 3 : 0, x.count(3));
            Check.due("Promise 3: what can be done again", lines < 0 ? 2 : 0, x.count(4));
            Check.due("Promise 3: undo", lines < 0, x.undo());
            Check.due("Promise 3: again", lines < 0, x.again());
            // The bytes behind the first n don't come back.
            Check.due("Promise 2: from the start again", 20, x.feed(0x64756164, 0x733B2020, BLANKS, BLANKS, BLANKS));
            Check.due("Promise 3: another text", 15, x.world(20));
        }
        NoThrees y = new NoThrees();
        Twins.busy(y);
        Check.due("Promise 3: another world", 5, y.world(9));
        Check.due("Promise 3: trays stay", 6, y.perform(0));
        y.restore(0);
        Check.due("Promise 3: images stay", 7, y.count(0));
        y.restore(2);
        Check.due("Promise 3: images stay", 4, y.count(1));
    }

    private static void worldWithFault() {
        String[] texts = {"points 3;line 0 1;!", "points 3;line 0 1; 7", "points 3;line 0 1;line 2 3;",
            lines("duads;", 49) + "line 0 1;"};
        int[] places = {18, 19, 25, 447};
        for (int i = 0; i < 4; i++) {
            NoThrees x = new NoThrees();
            Twins.busyWithoutTape(x);
            Check.due("Promise 3: -10 less the fault: " + texts[i], -11 - i, Check.world(x, texts[i]));
            Check.due("Promise 4: the fault of " + texts[i], i + 1, x.fault(0));
            Check.due("Promise 4: its place of " + texts[i], places[i], x.fault(1));
            Check.due("Promise 3: the tape is empty with a fault, too", 0, x.count(2));
            NoThrees twin = new NoThrees();
            Twins.busyWithoutTape(twin);
            Check.due("Promise 3: with a fault all else stays", true, Twins.worlds(twin).equals(Twins.worlds(x)));
        }
    }

    private static void fault() {
        NoThrees x = new NoThrees();
        for (int what : new int[] {-2, -1, 2, 3, Integer.MIN_VALUE, Integer.MAX_VALUE}) {
            Check.due("Promise 4: fault(" + what + ") at first", -1, x.fault(what));
        }
        Check.world(x, "points 4;line 0 4;");
        for (int what : new int[] {-2, -1, 2, 3, Integer.MIN_VALUE, Integer.MAX_VALUE}) {
            Check.due("Promise 4: fault(" + what + ")", -1, x.fault(what));
        }
        Check.due("Promise 4: the fault", 3, x.fault(0));
        Check.due("Promise 4: its place", 16, x.fault(1));
        Check.thrown("Promise 3: world(-1)", IllegalArgumentException.class, () -> x.world(-1));
        x.image(0);
        x.restore(0);
        x.dual();
        x.undo();
        x.feed(0, 0, 0, 0, 0);
        Check.due("Promise 4: of the latest world() that threw nothing", 3, x.fault(0));
        Check.due("Promise 4: of the latest world() that threw nothing", 16, x.fault(1));
        Check.due("Promise 4: a fault at the first byte", -11, x.world(1));
        Check.due("Promise 4: the place 0", 0, x.fault(1));
        Check.due("Promise 3: the end without a byte", 0, x.world(0));
        Check.due("Promise 4: none", 0, x.fault(0));
        Check.due("Promise 4: no place", -1, x.fault(1));
    }

    private static void taken(String about, int points, int lines, String text) {
        NoThrees x = new NoThrees();
        Check.due(about + ": " + text, lines, Check.world(x, text));
        Check.due(about + ": points of " + text, points, x.count(0));
        Check.due(about + ": lines of " + text, lines, x.count(1));
        Check.due(about + ": fault of " + text, 0, x.fault(0));
        Check.due(about + ": place of " + text, -1, x.fault(1));
    }

    private static void refused(String about, int kind, int place, String text) {
        NoThrees x = new NoThrees();
        Check.due(about + ": " + text, -10 - kind, Check.world(x, text));
        Check.due(about + ": fault of " + text, kind, x.fault(0));
        Check.due(about + ": place of " + text, place, x.fault(1));
    }

    private static void pointsAndLines() {
        taken("Terms 1: no text, no points", 0, 0, "");
        for (int n = 0; n <= 66; n++) {
            if (n >= 1 && n <= 64) {
                taken("Terms 1: points", n, 0, "points " + n + ";");
            } else {
                refused("Terms 1: points", 3, 7, "points " + n + ";");
            }
        }
        refused("Terms 1: points", 3, 7, "points 000;");
        refused("Terms 1: points", 3, 7, "points 100;");
        refused("Terms 1: points", 3, 7, "points 999;");
        taken("Terms 1: a line of two", 2, 1, "points 2;line 0 1;");
        taken("Terms 1: the last point", 64, 1, "points 64;line 63 0;");
        refused("Terms 1: no such point", 3, 15, "points 64;line 64 0;");
        refused("Terms 1: no such point", 3, 17, "points 64;line 0 64;");
        refused("Terms 1: no such point", 3, 14, "points 1;line 1 0;");
        refused("Terms 1: no such point", 3, 14, "points 2;line 2 0;");
        refused("Terms 1: told in this line already", 3, 16, "points 2;line 0 0;");
        refused("Terms 1: told in this line already", 3, 18, "points 2;line 0 1 0 1;");
        refused("Terms 1: told in this line already", 3, 18, "points 2;line 0 1 001;");
        taken("Terms 1: told in another line already", 2, 2, "points 2;line 0 1;line 1 0;");
        refused("Terms 1: a line of one", 2, 15, "points 2;line 0;");
        refused("Terms 1: a line of none", 2, 13, "points 2;line;");
        refused("Terms 1: no line without points", 2, 15, "points 1;line 0;");
        StringBuilder all = new StringBuilder("points 64;line");
        for (int p = 63; p >= 0; p--) {
            all.append(' ').append(p);
        }
        taken("Terms 1: a line of all", 64, 1, all + ";");
        Check.due("Terms 1: a line of all", -1, Check.told(all + ";").line(0));
        refused("Terms 1: a 65th point", 3, all.length() + 1, all + " 0;");
        refused("Terms 1: a 65th point", 3, all.length() + 1, all + " 64;");
        NoThrees x = Check.told("points 9;line 8 0;line 7 6 5;line 0 8;");
        Check.due("Terms 1: numbered as they come", Check.set(0, 8), x.line(0));
        Check.due("Terms 1: numbered as they come", Check.set(5, 6, 7), x.line(1));
        Check.due("Terms 1: numbered as they come", Check.set(0, 8), x.line(2));
    }

    private static void grids() {
        for (int a = 0; a <= 10; a++) {
            for (int b = 0; b <= 10; b++) {
                String text = "grid " + a + " " + b + ";";
                if (a < 2 || a > 8) {
                    refused("Terms 1: grid", 3, 5, text);
                } else if (b < 2 || b > 8) {
                    refused("Terms 1: grid", 3, 7, text);
                } else {
                    taken("Terms 1: grid", a * b, a + b, text);
                    grid(a, b, Check.told(text));
                }
            }
        }
        refused("Terms 1: grid", 3, 5, "grid 999 3;");
        refused("Terms 1: grid", 3, 7, "grid 3 999;");
        taken("Terms 1: grid", 24, 11, "grid 003 08;");
    }

    private static void grid(int a, int b, NoThrees x) {
        for (int i = 0; i < a; i++) {
            long set = 0;
            for (int j = 0; j < b; j++) {
                set |= 1L << b * i + j;
            }
            Check.due("Terms 1: grid " + a + " " + b + ", i " + i, set, x.line(i));
        }
        for (int j = 0; j < b; j++) {
            long set = 0;
            for (int i = 0; i < a; i++) {
                set |= 1L << b * i + j;
            }
            Check.due("Terms 1: grid " + a + " " + b + ", j " + j, set, x.line(a + j));
        }
    }

    private static void duadsAndSixes() {
        // Pairs without a common number, written out: 01.23.45, 01.24.35, 01.25.34, 02.13.45, ..
        String[] told = {"012345", "012435", "012534", "021345", "021435", "021534", "031245", "031425", "031524",
            "041235", "041325", "041523", "051234", "051324", "051423"};
        String pairs = "01 02 03 04 05 12 13 14 15 23 24 25 34 35 45";
        taken("Terms 1: duads", 15, 15, "duads;");
        taken("Terms 1: sixes", 27, 45, "sixes;");
        NoThrees duads = Check.told("duads;");
        NoThrees sixes = Check.told("sixes;");
        for (int i = 0; i < 15; i++) {
            long set = 0;
            for (int j = 0; j < 6; j += 2) {
                set |= 1L << pairs.indexOf(told[i].substring(j, j + 2)) / 3;
            }
            Check.due("Terms 1: duads, line " + i, set, duads.line(i));
            Check.due("Terms 1: sixes, line " + (30 + i), set << 12, sixes.line(30 + i));
        }
        int line = 0;
        for (int i = 0; i < 6; i++) {
            for (int j = 0; j < 6; j++) {
                if (i != j) {
                    int both = pairs.indexOf("" + Math.min(i, j) + Math.max(i, j)) / 3;
                    Check.due("Terms 1: sixes, a " + i + " b " + j, Check.set(i, 6 + j, 12 + both), sixes.line(line));
                    line++;
                }
            }
        }
        Check.due("Terms 1: thirty lines of sixes", 30, line);
        Check.thrown("Terms 1: duads have 15", NoSuchElementException.class, () -> duads.line(15));
        Check.thrown("Terms 1: sixes have 45", NoSuchElementException.class, () -> sixes.line(45));
    }

    private static void threes() {
        taken("Terms 1: threes", 40, 40, "threes;");
        int[][] four = new int[40][];
        int points = 0;
        for (int v = 1; v < 81; v++) {
            int[] x = {v / 27, v / 9 % 3, v / 3 % 3, v % 3};
            int first = x[0] != 0 ? x[0] : x[1] != 0 ? x[1] : x[2] != 0 ? x[2] : x[3];
            if (first == 1) {
                four[points] = x;
                points++;
            }
        }
        Check.due("Terms 1: forty such", 40, points);
        NoThrees told = Check.told("threes;");
        int lines = 0;
        for (int p = 0; p < 40; p++) {
            for (int q = p + 1; q < 40; q++) {
                int[] x = four[p];
                int[] y = four[q];
                boolean joined = (x[0] * y[1] - x[1] * y[0] + x[2] * y[3] - x[3] * y[2]) % 3 == 0;
                Check.due("Terms 1: threes, joined " + p + " " + q, joined, told.joined(p, q) >= 0);
                if (joined) {
                    long set = Check.set(p, q, sum(four, x, y, 1), sum(four, x, y, -1));
                    Check.due("Terms 1: threes, four points", 4, Long.bitCount(set));
                    if (Long.numberOfTrailingZeros(set) == p && Long.numberOfTrailingZeros(set & set - 1) == q) {
                        Check.due("Terms 1: threes, line " + lines, set, told.line(lines));
                        lines++;
                    }
                }
                if (q % 6 == 5) {
                    told = Check.told("threes;");
                }
            }
        }
        Check.due("Terms 1: forty lines", 40, lines);
    }

    /** The point among the forty that is x and so many times y, or twice that. */
    private static int sum(int[][] four, int[] x, int[] y, int times) {
        for (int p = 0; p < 40; p++) {
            boolean once = true;
            boolean twice = true;
            for (int i = 0; i < 4; i++) {
                once &= Math.floorMod(x[i] + times * y[i] - four[p][i], 3) == 0;
                twice &= Math.floorMod(2 * (x[i] + times * y[i]) - four[p][i], 3) == 0;
            }
            if (once || twice) {
                return p;
            }
        }
        return 0;
    }

    private static void blanks() {
        taken("Terms 1: blanks 10 and 32", 4, 1, "\n points\n4\n \n;\nline  0\n\n1 ; \n");
        taken("Terms 1: blanks at the end", 4, 0, "points 4;   \n");
        for (int sign : new int[] {0, 9, 11, 12, 13, 31, 33, 133, 160, 255}) {
            refused("Terms 1: no blank is " + sign, 1, 6, "points" + (char) sign + "4;");
            refused("Terms 1: no blank is " + sign, 1, 9, "points 4;" + (char) sign);
            refused("Terms 1: no blank is " + sign, 1, 0, (char) sign + "points 4;");
        }
    }

    private static void signs() {
        for (int sign = 0; sign < 256; sign++) {
            boolean word = sign >= 'a' && sign <= 'z';
            boolean digit = sign >= '0' && sign <= '9';
            if (sign == ' ' || sign == '\n') {
                taken("Terms 1: sign " + sign, 15, 15, "duads;" + (char) sign);
            } else {
                refused("Terms 1: sign " + sign, word || digit || sign == ';' ? 2 : 1, 6, "duads;" + (char) sign);
            }
        }
        refused("Terms 1: below the small letters", 1, 0, "`");
        refused("Terms 1: above the small letters", 1, 0, "{");
        refused("Terms 1: great letters", 1, 0, "DUADS;");
        refused("Terms 1: great letters", 1, 1, "\nDuads;");
        refused("Terms 1: a word up to a great letter", 2, 0, "duadS;");
        refused("Terms 1: below the digits", 1, 7, "points /;");
        refused("Terms 1: above the digits", 1, 7, "points :;");
        refused("Terms 1: above the sign", 1, 8, "points 4<");
    }

    private static void tokens() {
        taken("Terms 1: one digit", 5, 0, "points 5;");
        taken("Terms 1: two digits", 5, 0, "points 05;");
        taken("Terms 1: three digits", 5, 0, "points 005;");
        refused("Terms 1: four digits, at their first", 1, 7, "points 0005;");
        refused("Terms 1: many digits, at their first", 1, 7, "points 00000000000000000005;");
        refused("Terms 1: many digits, at their first", 1, 7, "points 4294967297;");
        refused("Terms 1: four digits where none can stand", 1, 0, "1000");
        refused("Terms 1: four digits where none can stand", 1, 9, "points 4 1000;");
        refused("Terms 1: four digits at the end", 1, 16, "points 4;line 0 1000");
        refused("Terms 1: three digits at the end", 3, 16, "points 4;line 0 100");
        taken("Terms 1: no blanks are needed", 4, 1, "points4;line0 1;");
        taken("Terms 1: no blanks are needed", 9, 6, "grid3 3;");
        refused("Terms 1: as long as they go", 3, 4, "grid33 3;");
        refused("Terms 1: as long as they go", 2, 0, "duadsduads;");
        refused("Terms 1: as long as they go", 2, 0, "duad s;");
        refused("Terms 1: as long as they go", 2, 0, "duad");
        refused("Terms 1: as long as they go", 2, 0, "point");
        refused("Terms 1: as long as they go", 2, 6, "duads;linee 0 1;");
        refused("Terms 1: as long as they go", 2, 6, "duads;lin 0 1;");
        refused("Terms 1: a number ends a word", 2, 1, "\nd1uads;");
        refused("Terms 1: a word ends a number", 2, 17, "points 4;line 0 1line 2 3;");
        for (String word : new String[] {"points", "grid", "duads", "sixes", "threes", "line"}) {
            String rest = word.equals("points") ? " 4;" : word.equals("grid") ? " 2 2;" : word.equals("line") ? " 0 1;" : ";";
            String ahead = word.equals("line") ? "duads;" : "";
            for (int i = 0; i < word.length(); i++) {
                for (char letter : new char[] {'a', 'z', (char) (word.charAt(i) - 1), (char) (word.charAt(i) + 1)}) {
                    String other = word.substring(0, i) + letter + word.substring(i + 1);
                    if (!other.equals(word) && letter >= 'a' && letter <= 'z') {
                        refused("Terms 1: another word", 2, ahead.length(), ahead + other + rest);
                    }
                }
                refused("Terms 1: a part of a word", 2, ahead.length(), ahead + word.substring(0, i) + word.substring(i + 1) + rest);
            }
            refused("Terms 1: a word and a letter", 2, ahead.length(), ahead + word + "s" + rest);
        }
        refused("Terms 1: another word", 2, 0, "a;");
        refused("Terms 1: another word", 2, 0, "zzzzzzzzzzzzzzzzzzzzzzzzzz;");
    }

    private static void firstAlongTheText() {
        refused("Terms 1: the first along the text", 3, 7, "points 0;line 0;!");
        refused("Terms 1: the first along the text", 2, 6, "points;!");
        refused("Terms 1: the first along the text", 1, 7, "points ! 0;");
        refused("Terms 1: the first along the text", 3, 5, "grid 9 9;");
        refused("Terms 1: the first along the text", 2, 6, "grid 3; 9;");
        refused("Terms 1: the first along the text", 3, 14, "points 4;line 4;");
        refused("Terms 1: the first along the text", 2, 13, "points 4;line;line 4 9999;");
        refused("Terms 1: the least kind of one token", 2, 9, "points 4 99;");
        refused("Terms 1: the least kind of one token", 2, 0, "99");
        refused("Terms 1: the least kind of one token", 1, 0, "9999");
        refused("Terms 1: the least kind of one token", 1, 7, "points 9999;");
        refused("Terms 1: the least kind of one token", 2, 9, "grid 3 3 99;");
    }

    private static void standsThere() {
        for (String word : new String[] {"points", "grid", "duads", "sixes", "threes"}) {
            refused("Terms 1: no second of the first five", 2, 6, "duads;" + word);
            refused("Terms 1: no second of the first five", 2, 19, "points 4; line 0 1;" + word + " 3;");
            refused("Terms 1: no word behind points", 2, 7, "points " + word);
            refused("Terms 1: no word behind line", 2, 11, "duads;line " + word);
        }
        refused("Terms 1: line isn't the first", 2, 0, "line 0 1;");
        refused("Terms 1: nothing stands before the first", 2, 0, ";duads;");
        refused("Terms 1: nothing stands between", 2, 6, "duads;;");
        refused("Terms 1: nothing stands between", 2, 15, "duads;line 0 1;;");
        refused("Terms 1: a number can't stand there", 2, 6, "duads;3;");
        refused("Terms 1: a number can't stand there", 2, 6, "sixes 3;");
        refused("Terms 1: a number can't stand there", 2, 7, "threes 3;");
        refused("Terms 1: a number can't stand there", 2, 10, "points 1  3;");
        refused("Terms 1: the end", 2, 5, "duads");
        refused("Terms 1: the end", 2, 8, "duads \n ");
        refused("Terms 1: the end", 2, 6, "points");
        refused("Terms 1: the end", 2, 8, "points 4");
        refused("Terms 1: the end", 2, 4, "grid");
        refused("Terms 1: the end", 2, 6, "grid 3");
        refused("Terms 1: the end", 2, 8, "grid 3 3");
        refused("Terms 1: the end", 2, 10, "duads;line");
        refused("Terms 1: the end", 2, 12, "duads;line 0");
        refused("Terms 1: the end", 2, 14, "duads;line 0 1");
        refused("Terms 1: the end", 2, 16, "duads;line 0 1  ");
        refused("Terms 1: the next line is too early", 2, 14, "duads;line 0 1line 2 3;");
        refused("Terms 1: fewer than two", 2, 11, "duads;line line 0 1;");
        refused("Terms 1: fewer than two", 2, 13, "duads;line 0 line 1 2;");
        // The rest of the tape isn't of the text.
        NoThrees x = new NoThrees();
        Check.feed(x, "points 4;");
        Check.due("Terms 1: the end of the text", -12, x.world(8));
        Check.due("Terms 1: the text's length", 8, x.fault(1));
        Check.feed(x, "points 41;");
        Check.due("Terms 1: the end of the text", -12, x.world(8));
        Check.due("Terms 1: the text's length", 8, x.fault(1));
        Check.feed(x, "points 4;line 0 1;");
        Check.due("Terms 1: the end of the text", -12, x.world(12));
        Check.due("Terms 1: a word that is cut short", 9, x.fault(1));
        Check.feed(x, "points 1000;");
        Check.due("Terms 1: three digits of the text", -13, x.world(10));
        Check.feed(x, "duads;9999;");
        Check.due("Terms 1: three digits of the text", -12, x.world(9));
    }

    private static void bounds() {
        refused("Terms 1: no such point of duads", 3, 13, "duads;line 0 15;");
        taken("Terms 1: the last point of duads", 15, 16, "duads;line 0 14;");
        refused("Terms 1: no such point of sixes", 3, 11, "sixes;line 27 0;");
        taken("Terms 1: the last point of sixes", 27, 46, "sixes;line 26 0;");
        refused("Terms 1: no such point of threes", 3, 12, "threes;line 40 0;");
        taken("Terms 1: the last point of threes", 40, 41, "threes;line 39 0;");
        refused("Terms 1: no such point of a grid", 3, 14, "grid 2 3;line 6 0;");
        taken("Terms 1: the last point of a grid", 6, 6, "grid 2 3;line 5 0;");
    }

    private static String lines(String first, int many) {
        StringBuilder text = new StringBuilder(first);
        for (int i = 0; i < many; i++) {
            text.append("line 0 1;");
        }
        return text.toString();
    }

    private static void sixtyFifth() {
        StringBuilder most = new StringBuilder("points 64;");
        for (int i = 0; i < 64; i++) {
            most.append("line 63 0;");
        }
        taken("Terms 1: 64 points and 64 lines", 64, 64, most.toString());
        Check.due("Terms 1: the 64th line", 1L << 63 | 1, Check.told(most.toString()).line(63));
        refused("Terms 1: a 65th line", 4, 650, most + "line 63 0;");
        String[] first = {"points 2;", "grid 8 8;", "grid 2 2;", "duads;", "sixes;", "threes;"};
        int[] points = {2, 64, 4, 15, 27, 40};
        int[] has = {0, 16, 4, 15, 45, 40};
        for (int i = 0; i < first.length; i++) {
            String full = lines(first[i], 64 - has[i]);
            int end = full.length();
            taken("Terms 1: 64 lines", points[i], 64, full);
            refused("Terms 1: a 65th line", 4, end, full + "line 0 1;");
            refused("Terms 1: a 65th line, at its first token", 4, end + 1, full + " line");
            refused("Terms 1: a 65th line, at its first token", 4, end + 1, full + "\nline 0 0;");
            refused("Terms 1: its first token can't stand there", 2, end, full + ";");
            refused("Terms 1: its first token can't stand there", 2, end, full + "duads;");
            refused("Terms 1: its first token can't stand there", 2, end, full + "lines");
            refused("Terms 1: its first token can't stand there", 2, end, full + "12");
            refused("Terms 1: no token begins so", 1, end, full + "!");
            refused("Terms 1: no token begins so", 1, end, full + "1234");
            NoThrees x = Check.told(full.substring(0, end));
            Check.due("Promise 36: none beyond 64", -1, x.add(3));
        }
    }
}
