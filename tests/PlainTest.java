import java.util.ArrayList;
import java.util.Arrays;
import java.util.Collections;
import java.util.List;
import java.util.NoSuchElementException;
import java.util.Random;

/** Long runs of calls, each answer held against a plain reckoning by other means. */
public final class PlainTest {
    private static final long NSE = 1L << 40 | 1;
    private static final long ISE = 1L << 40 | 2;
    private static final long IAE = 1L << 40 | 3;
    private static final long IOOBE = 1L << 40 | 4;

    public static void main(String[] args) {
        for (int seed = 0; seed < 460; seed++) {
            new PlainTest(seed).run();
        }
        Check.end("PlainTest");
    }

    private final Random random;
    private final int seed;
    private final NoThrees x = new NoThrees();
    private Plain now = new Plain(0);
    private final List<Plain> undos = new ArrayList<>();
    private final List<Plain> redos = new ArrayList<>();
    private final Plain[] images = new Plain[3];
    private final long[][] trays = new long[4][];
    private final int[] sorts = new int[4];
    private int called;

    private PlainTest(int seed) {
        this.seed = seed;
        random = new Random(seed);
    }

    private interface Asked {
        long get();
    }

    private void due(String what, long want, Asked call) {
        long got;
        try {
            got = call.get();
        } catch (NoSuchElementException e) {
            got = NSE;
        } catch (IndexOutOfBoundsException e) {
            got = e.getClass() == IndexOutOfBoundsException.class ? IOOBE : -12345;
        } catch (IllegalStateException e) {
            got = ISE;
        } catch (IllegalArgumentException e) {
            got = IAE;
        }
        called++;
        Check.due("seed " + seed + " " + now + ": " + what, want, got);
    }

    private void run() {
        for (int tray = 0; tray < 3 && seed % 4 != 0; tray++) {
            int row = tray;
            int sort = random.nextInt(4);
            int many = random.nextInt(41);
            due("tray", 0, () -> {
                x.tray(row, sort, many);
                return 0;
            });
            trays[tray] = new long[many];
            sorts[tray] = sort;
        }
        newWorld();
        // In some runs acts follow on one another for long.
        int worlds = seed % 3 == 0 ? 0 : 4;
        // An object has 512 calls, and one turn takes up to some sixty.
        while (called < 440) {
            int what = random.nextInt(60);
            if (what < worlds) {
                newWorld();
            } else if (what < worlds + 2 && worlds > 0) {
                alikeWorld();
            } else if (what < (worlds == 0 ? 40 : 20)) {
                act();
            } else if (what < 26) {
                trayCall();
            } else if (what < 30) {
                imageCall();
            } else {
                ask();
            }
        }
    }

    /** What was made an image, with its points and lines in another order, or a point of a line moved. */
    private void alikeWorld() {
        int i = random.nextInt(3);
        if (images[i] == null || images[i].n == 0) {
            return;
        }
        Plain from = images[i];
        List<Integer> order = new ArrayList<>();
        for (int p = 0; p < from.n; p++) {
            order.add(p);
        }
        Collections.shuffle(order, random);
        Plain told = new Plain(from.n);
        for (long l : from.lines) {
            long set = 0;
            for (int p = 0; p < from.n; p++) {
                set |= Plain.in(l, p) ? 1L << order.get(p) : 0;
            }
            told.lines.add(set);
        }
        Collections.shuffle(told.lines, random);
        boolean spoilt = !told.lines.isEmpty() && random.nextInt(3) == 0;
        if (spoilt) {
            long set = told.lines.get(0);
            told.lines.set(0, set & set - 1 | 1L << random.nextInt(from.n));
            if (Long.bitCount(told.lines.get(0)) < 2) {
                return;
            }
        }
        StringBuilder text = new StringBuilder("points " + from.n + ";");
        for (long l : told.lines) {
            text.append("line");
            for (int p = from.n - 1; p >= 0; p--) {
                text.append(Plain.in(l, p) ? " " + p : "");
            }
            text.append(";");
        }
        String whole = text.toString();
        if (whole.length() > 700) {
            return;
        }
        Check.feed(x, whole);
        called += (whole.length() + 19) / 20;
        due("world " + whole, told.lines.size(), () -> x.world(whole.length()));
        now = told;
        undos.clear();
        redos.clear();
        same();
        if (from.n > 16) {
            due("like " + i, -1, () -> x.like(i));
        } else if (!spoilt) {
            due("like " + i, 1, () -> x.like(i));
        } else if (from.n <= 6) {
            due("like " + i, now.like(from) ? 1 : 0, () -> x.like(i));
        }
    }

    private void newWorld() {
        int n = 1 + random.nextInt(random.nextInt(4) == 0 ? 64 : 8);
        StringBuilder text = new StringBuilder();
        Plain told;
        int kind = random.nextInt(12);
        if (kind == 0) {
            int a = 2 + random.nextInt(7);
            int b = 2 + random.nextInt(7);
            text.append("grid ").append(a).append(' ').append(b).append(';');
            told = Plain.grid(a, b);
        } else if (kind == 1) {
            text.append("duads;");
            told = Plain.duads();
        } else if (kind == 2) {
            text.append("sixes;");
            told = Plain.sixes();
        } else if (kind == 3) {
            text.append("threes;");
            told = Plain.threes();
        } else {
            text.append("points ").append(n).append(" ;");
            told = new Plain(n);
        }
        int many = told.n < 2 ? 0 : random.nextInt(random.nextInt(3) == 0 ? 20 : 7);
        int most = 2 + random.nextInt(3);
        for (int i = 0; i < many && told.lines.size() < 64 && text.length() < 600; i++) {
            int size = Math.min(told.n, 2 + random.nextInt(most));
            List<Integer> points = new ArrayList<>();
            for (int p = 0; p < told.n; p++) {
                points.add(p);
            }
            Collections.shuffle(points, random);
            long set = 0;
            text.append("\nline");
            for (int p : points.subList(0, size)) {
                text.append(' ').append(p);
                set |= 1L << p;
            }
            text.append(random.nextBoolean() ? ";" : " ; ");
            told.lines.add(set);
        }
        String whole = text.toString();
        Check.feed(x, whole);
        called += (whole.length() + 19) / 20;
        int fedNow = (whole.length() + 19) / 20 * 20;
        due("count(2)", fedNow, () -> x.count(2));
        due("world " + fedNow, IAE, () -> x.world(fedNow + 1));
        due("world", IAE, () -> x.world(-1));
        due("world " + whole, told.lines.size(), () -> x.world(whole.length()));
        now = told;
        undos.clear();
        redos.clear();
        due("count(2)", 0, () -> x.count(2));
        same();
    }

    private void same() {
        due("count(0)", now.n, () -> x.count(0));
        due("count(1)", now.lines.size(), () -> x.count(1));
        due("count(3)", undos.size(), () -> x.count(3));
        due("count(4)", redos.size(), () -> x.count(4));
        int lines = now.lines.size();
        int shown = lines == 0 ? 0 : random.nextInt(lines);
        for (int i = shown; i < Math.min(lines, shown + 3); i++) {
            int line = i;
            due("line(" + i + ")", now.lines.get(i), () -> x.line(line));
        }
        due("line(" + lines + ")", NSE, () -> x.line(lines));
    }

    private void keep() {
        undos.add(now.copy());
        if (undos.size() > 20) {
            undos.remove(0);
        }
        redos.clear();
    }

    private long anySet() {
        long all = now.all();
        long set = random.nextLong() & all;
        if (random.nextInt(3) == 0) {
            set &= random.nextLong();
        }
        if (random.nextInt(3) == 0) {
            set &= random.nextLong() & random.nextLong();
        }
        if (random.nextInt(25) == 0) {
            set |= 1L << random.nextInt(64);
        }
        return set;
    }

    private boolean isSet(long set) {
        return (set & ~now.all()) == 0;
    }

    private int anyPoint() {
        return random.nextInt(20) == 0 ? random.nextInt(80) - 5 : random.nextInt(Math.max(1, now.n));
    }

    private int anyLine() {
        return random.nextInt(20) == 0 ? random.nextInt(80) - 5 : random.nextInt(Math.max(1, now.lines.size()));
    }

    private boolean isPoint(long p) {
        return p >= 0 && p < now.n;
    }

    private boolean isLine(long l) {
        return l >= 0 && l < now.lines.size();
    }

    private void act() {
        switch (random.nextInt(10)) {
            case 0:
            case 1:
            case 2: {
                long set = anySet();
                if (!isSet(set) || Long.bitCount(set) < 2) {
                    due("add(" + set + ")", IAE, () -> x.add(set));
                } else if (now.lines.size() == 64) {
                    due("add(" + set + ")", -1, () -> x.add(set));
                } else {
                    due("add(" + set + ")", now.lines.size(), () -> x.add(set));
                    keep();
                    now.lines.add(set);
                }
                break;
            }
            case 3:
            case 4: {
                int line = anyLine();
                if (!isLine(line)) {
                    due("drop(" + line + ")", NSE, () -> x.drop(line));
                } else {
                    due("drop(" + line + ")", now.lines.get(line), () -> x.drop(line));
                    keep();
                    now.lines.remove(line);
                }
                break;
            }
            case 5: {
                due("dual()", now.lines.size(), () -> x.dual());
                keep();
                now = now.dual();
                break;
            }
            case 6: {
                int point = anyPoint();
                if (!isPoint(point)) {
                    due("left(" + point + ")", NSE, () -> x.left(point));
                } else {
                    Plain left = now.left(point);
                    due("left(" + point + ")", left.n, () -> x.left(point));
                    keep();
                    now = left;
                }
                break;
            }
            case 7:
            case 8:
                due("undo()", undos.isEmpty() ? 0 : 1, () -> x.undo() ? 1 : 0);
                back();
                break;
            default:
                due("again()", redos.isEmpty() ? 0 : 1, () -> x.again() ? 1 : 0);
                forth();
        }
        same();
    }

    private boolean back() {
        if (undos.isEmpty()) {
            return false;
        }
        redos.add(now);
        now = undos.remove(undos.size() - 1);
        return true;
    }

    private boolean forth() {
        if (redos.isEmpty()) {
            return false;
        }
        undos.add(now);
        now = redos.remove(redos.size() - 1);
        return true;
    }

    private static long cut(int sort, long v) {
        return sort == 0 ? (byte) v : sort == 1 ? (short) v : sort == 2 ? (int) v : v;
    }

    private void trayCall() {
        int tray = random.nextInt(20) == 0 ? random.nextInt(10) - 3 : random.nextInt(4);
        boolean is = tray >= 0 && tray < 4;
        int what = random.nextInt(4);
        if (what == 0) {
            int sort = random.nextInt(15) == 0 ? random.nextInt(10) - 3 : random.nextInt(4);
            int many = random.nextInt(15) == 0 ? random.nextInt(60) - 10 : random.nextInt(41);
            boolean good = sort >= 0 && sort < 4 && many >= 0 && many <= 40;
            due("tray " + tray + " " + sort + " " + many, !is ? NSE : !good ? IAE : 0, () -> {
                x.tray(tray, sort, many);
                return 0;
            });
            if (is && good) {
                trays[tray] = new long[many];
                sorts[tray] = sort;
            }
        } else if (what == 1) {
            if (!is || trays[tray] == null) {
                due("pour " + tray, !is ? NSE : ISE, () -> x.pour(tray));
                return;
            }
            int many = Math.min(trays[tray].length, now.lines.size());
            due("pour " + tray, many, () -> x.pour(tray));
            for (int i = 0; i < many; i++) {
                trays[tray][i] = cut(sorts[tray], now.lines.get(i));
            }
            performCall(tray);
        } else {
            for (int i = 0; i < 12; i++) {
                writeCall(tray, is, i);
            }
            if (is && trays[tray] != null && trays[tray].length > 30 && random.nextBoolean()) {
                for (int i = 0; i < trays[tray].length; i++) {
                    writeCall(tray, true, i);
                }
            }
            performCall(tray);
        }
    }

    private void writeCall(int tray, boolean is, int at) {
        int place = random.nextInt(30) == 0 ? random.nextInt(60) - 10 : at;
        long v = random.nextInt(3) == 0 ? -1 - random.nextInt(6) : anyPoint();
        if (random.nextInt(30) == 0) {
            v = random.nextLong();
        }
        long value = v;
        if (!is || trays[tray] == null) {
            due("write", !is ? NSE : ISE, () -> x.write(tray, place, value));
        } else if (place < 0 || place >= trays[tray].length) {
            due("write", IOOBE, () -> x.write(tray, place, value));
        } else {
            long kept = cut(sorts[tray], v);
            due("write", kept, () -> x.write(tray, place, value));
            trays[tray][place] = kept;
        }
    }

    private void performCall(int tray) {
        if (tray < 0 || tray > 3 || trays[tray] == null) {
            due("perform " + tray, tray < 0 || tray > 3 ? NSE : ISE, () -> x.perform(tray));
            return;
        }
        int used = plainPerform(trays[tray]);
        due("perform " + Arrays.toString(trays[tray]), used, () -> x.perform(tray));
        same();
    }

    private int plainPerform(long[] row) {
        int at = 0;
        while (at < row.length) {
            if (row[at] == -1) {
                int end = at + 1;
                while (end < row.length && row[end] >= 0) {
                    end++;
                }
                long set = 0;
                for (int i = at + 1; i < end; i++) {
                    if (!isPoint(row[i])) {
                        return at;
                    }
                    set |= 1L << row[i];
                }
                if (Long.bitCount(set) < 2 || now.lines.size() == 64) {
                    return at;
                }
                keep();
                now.lines.add(set);
                at = end;
            } else if (row[at] == -2) {
                if (at + 1 == row.length || !isLine(row[at + 1])) {
                    return at;
                }
                keep();
                now.lines.remove((int) row[at + 1]);
                at += 2;
            } else if (row[at] == -3) {
                keep();
                now = now.dual();
                at++;
            } else if (row[at] == -4) {
                if (at + 1 == row.length || !isPoint(row[at + 1])) {
                    return at;
                }
                keep();
                now = now.left((int) row[at + 1]);
                at += 2;
            } else if (row[at] == -5 || row[at] == -6) {
                if (row[at] == -5 ? !back() : !forth()) {
                    return at;
                }
                at++;
            } else {
                return at;
            }
        }
        return at;
    }

    private void imageCall() {
        int i = random.nextInt(12) == 0 ? random.nextInt(9) - 3 : random.nextInt(3);
        boolean is = i >= 0 && i < 3;
        switch (random.nextInt(5)) {
            case 0:
                due("image " + i, is ? 0 : NSE, () -> {
                    x.image(i);
                    return 0;
                });
                if (is) {
                    images[i] = now.copy();
                }
                break;
            case 1:
                due("restore " + i, !is ? NSE : images[i] == null ? ISE : 0, () -> {
                    x.restore(i);
                    return 0;
                });
                if (is && images[i] != null) {
                    now = images[i].copy();
                    undos.clear();
                    redos.clear();
                }
                same();
                break;
            default:
                long want = !is ? NSE : images[i] == null ? ISE : -5;
                if (want == -5) {
                    Plain other = images[i];
                    if (now.n > 16 || other.n > 16) {
                        want = -1;
                    } else if (now.n > 6 && now.n == other.n) {
                        return;
                    } else {
                        want = now.like(other) ? 1 : 0;
                    }
                }
                due("like " + i, want, () -> x.like(i));
        }
    }

    private void ask() {
        int p = anyPoint();
        int q = anyPoint();
        boolean two = isPoint(p) && isPoint(q);
        boolean unjoined = two && p != q && !now.joined(p, q);
        long set = anySet();
        boolean is = isSet(set);
        int k = random.nextInt(12) - 1;
        switch (random.nextInt(32)) {
            case 0:
                due("through " + p, isPoint(p) ? now.through(p) : NSE, () -> x.through(p));
                break;
            case 1:
                due("joined " + p + " " + q, two ? now.firstOn(p, q) : NSE, () -> x.joined(p, q));
                break;
            case 2:
                due("near " + p, isPoint(p) ? now.near(p) : NSE, () -> x.near(p));
                break;
            case 3:
                due("across " + set, is ? now.across(set) : IAE, () -> x.across(set));
                break;
            case 4:
                due("spanned " + set, is ? now.spanned(set) : IAE, () -> x.spanned(set));
                break;
            case 5:
                due("hyper " + p + " " + q, !two ? NSE : unjoined ? now.hyper(p, q) : 0, () -> x.hyper(p, q));
                break;
            case 6:
                due("regular " + p + " " + q, !two ? NSE : unjoined && Long.bitCount(now.hyper(p, q))
                        == Long.bitCount(now.through(p)) ? 1 : 0, () -> x.regular(p, q) ? 1 : 0);
                break;
            case 7:
                due("own " + k, k < 0 || k > 2 ? IAE : now.own(k, false), () -> x.own(k, false));
                due("own " + k, k < 0 || k > 2 ? IAE : now.own(k, true), () -> x.own(k, true));
                break;
            case 8:
                due("law", now.law(), () -> x.law());
                break;
            case 9:
                due("order", now.order(false), () -> x.order(false));
                due("order", now.order(true), () -> x.order(true));
                break;
            case 10: {
                int line = anyLine();
                due("meets", !isLine(line) ? NSE : !is ? IAE : Long.bitCount(now.lines.get(line) & set),
                        () -> x.meets(set, line));
                break;
            }
            case 11:
                due("even " + set, is ? now.even(set) : IAE, () -> x.even(set));
                break;
            case 12: {
                int m = random.nextInt(6) - 1;
                if (now.n <= 16) {
                    due("evens " + m, now.evens(m), () -> x.evens(m));
                } else {
                    due("evens " + m, -1, () -> x.evens(m));
                }
                break;
            }
            case 13:
                due("tight " + set, is ? now.tight(set) : IAE, () -> x.tight(set));
                due("tight all", now.tight(now.all()), () -> x.tight(now.all()));
                break;
            case 14:
                due("ovoid", now.ovoids(true), () -> x.ovoid());
                break;
            case 15:
                due("ovoids", now.ovoids(false), () -> x.ovoids());
                break;
            case 16:
                due("spread", now.spreads(true), () -> x.spread());
                break;
            case 17:
                due("spreads", now.spreads(false), () -> x.spreads());
                break;
            case 18:
                if (now.n > 27) {
                    due("cap", -1, () -> x.cap());
                } else if (now.n <= 15) {
                    due("cap", now.cap(), () -> x.cap());
                }
                break;
            case 19:
                due("triads " + k, now.triads(k), () -> x.triads(k));
                break;
            case 20:
                due("walks " + k, k < 0 || k > 8 ? IAE : now.walks(k), () -> x.walks(k));
                break;
            case 21:
                due("far " + p + " " + q, two ? now.far(p, q) : NSE, () -> x.far(p, q));
                break;
            case 22:
                due("widest", now.widest(), () -> x.widest());
                break;
            case 23:
                due("ring", now.ring(), () -> x.ring());
                break;
            case 24:
                due("parts", now.parts(), () -> x.parts());
                break;
            case 25: {
                int f = random.nextInt(10);
                due("rank " + f, f == 2 || f == 3 || f == 5 || f == 7 ? now.rank(f) : IAE, () -> x.rank(f));
                break;
            }
            case 26:
                due("code 0", now.n - now.rank(2), () -> x.code(0));
                due("code " + (k | 2), IAE, () -> x.code(k | 2));
                break;
            case 27:
                if (now.n <= 16 || now.n - now.rank(2) > 16) {
                    due("code 1", now.leastWord(), () -> x.code(1));
                }
                break;
            case 28:
                if (now.n <= 6 || now.n > 16) {
                    due("turnings", now.n > 16 ? -1 : now.turnings(), () -> x.turnings());
                }
                break;
            case 29:
                if (now.n <= 6 || now.n > 16) {
                    due("orbit " + p, !isPoint(p) ? NSE : now.n > 16 ? 0 : now.orbit(p), () -> x.orbit(p));
                }
                break;
            case 30:
                due("count " + (5 + k), -1, () -> x.count(k < 0 ? k : 5 + k));
                break;
            default:
                due("fault", 0, () -> x.fault(0));
                due("fault", -1, () -> x.fault(1));
                due("fault", -1, () -> x.fault(2));
        }
    }
}

/** A world whose answers are reckoned in the plainest way. */
final class Plain {
    final int n;
    final List<Long> lines = new ArrayList<>();
    private int tries;

    Plain(int n) {
        this.n = n;
    }

    public String toString() {
        return n + " " + lines;
    }

    Plain copy() {
        Plain c = new Plain(n);
        c.lines.addAll(lines);
        return c;
    }

    static boolean in(long set, int p) {
        return (set >> p & 1) == 1;
    }

    long all() {
        long all = 0;
        for (int p = 0; p < n; p++) {
            all |= 1L << p;
        }
        return all;
    }

    static Plain grid(int a, int b) {
        Plain w = new Plain(a * b);
        for (int i = 0; i < a; i++) {
            long set = 0;
            for (int j = 0; j < b; j++) {
                set |= 1L << (b * i + j);
            }
            w.lines.add(set);
        }
        for (int j = 0; j < b; j++) {
            long set = 0;
            for (int i = 0; i < a; i++) {
                set |= 1L << (b * i + j);
            }
            w.lines.add(set);
        }
        return w;
    }

    private static List<String> pairs() {
        return List.of("01", "02", "03", "04", "05", "12", "13", "14", "15", "23", "24", "25", "34", "35", "45");
    }

    private static List<Long> duadLines(int from) {
        List<int[]> rows = new ArrayList<>();
        List<String> pairs = pairs();
        for (int i = 1; i < 6; i++) {
            List<Integer> rest = new ArrayList<>(List.of(1, 2, 3, 4, 5));
            rest.remove((Integer) i);
            for (int k = 1; k < 4; k++) {
                List<Integer> last = new ArrayList<>(rest);
                int a = last.remove(0);
                int b = last.remove(k - 1);
                int[] row = {pairs.indexOf("0" + i), pairs.indexOf("" + a + b), pairs.indexOf("" + last.get(0) + last.get(1))};
                Arrays.sort(row);
                rows.add(row);
            }
        }
        rows.sort(Arrays::compare);
        List<Long> lines = new ArrayList<>();
        for (int[] row : rows) {
            lines.add(1L << (from + row[0]) | 1L << (from + row[1]) | 1L << (from + row[2]));
        }
        return lines;
    }

    static Plain duads() {
        Plain w = new Plain(15);
        w.lines.addAll(duadLines(0));
        return w;
    }

    static Plain sixes() {
        Plain w = new Plain(27);
        for (int i = 0; i < 6; i++) {
            for (int j = 0; j < 6; j++) {
                if (i != j) {
                    String both = i < j ? "" + i + j : "" + j + i;
                    w.lines.add(1L << i | 1L << (6 + j) | 1L << (12 + pairs().indexOf(both)));
                }
            }
        }
        w.lines.addAll(duadLines(12));
        return w;
    }

    static Plain threes() {
        List<int[]> points = new ArrayList<>();
        for (int a = 0; a < 3; a++) {
            for (int b = 0; b < 3; b++) {
                for (int c = 0; c < 3; c++) {
                    for (int d = 0; d < 3; d++) {
                        int first = a != 0 ? a : b != 0 ? b : c != 0 ? c : d;
                        if (first == 1) {
                            points.add(new int[] {a, b, c, d});
                        }
                    }
                }
            }
        }
        Plain w = new Plain(40);
        List<Long> sets = new ArrayList<>();
        for (int p = 0; p < 40; p++) {
            for (int q = 0; q < 40; q++) {
                int[] v = points.get(p);
                int[] u = points.get(q);
                if (p == q || Math.floorMod(v[0] * u[1] - v[1] * u[0] + v[2] * u[3] - v[3] * u[2], 3) != 0) {
                    continue;
                }
                long set = 1L << p | 1L << q;
                for (int r = 0; r < 40; r++) {
                    for (int sign = 1; sign <= 2; sign++) {
                        for (int times = 1; times <= 2; times++) {
                            boolean like = true;
                            for (int i = 0; i < 4; i++) {
                                like &= times * (v[i] + sign * u[i]) % 3 == points.get(r)[i];
                            }
                            set |= like ? 1L << r : 0;
                        }
                    }
                }
                if (!sets.contains(set)) {
                    sets.add(set);
                }
            }
        }
        sets.sort((s, t) -> {
            long high = s & s - 1;
            long other = t & t - 1;
            int c = Integer.compare(Long.numberOfTrailingZeros(s), Long.numberOfTrailingZeros(t));
            return c != 0 ? c : Integer.compare(Long.numberOfTrailingZeros(high), Long.numberOfTrailingZeros(other));
        });
        w.lines.addAll(sets);
        return w;
    }

    boolean joined(int p, int q) {
        for (long l : lines) {
            if (p != q && in(l, p) && in(l, q)) {
                return true;
            }
        }
        return false;
    }

    int firstOn(int p, int q) {
        for (int i = 0; i < lines.size(); i++) {
            if (in(lines.get(i), p) && in(lines.get(i), q)) {
                return i;
            }
        }
        return -1;
    }

    long through(int p) {
        long set = 0;
        for (int i = 0; i < lines.size(); i++) {
            set |= in(lines.get(i), p) ? 1L << i : 0;
        }
        return set;
    }

    long near(int p) {
        long set = 0;
        for (int q = 0; q < n; q++) {
            set |= joined(p, q) ? 1L << q : 0;
        }
        return set;
    }

    long across(long set) {
        long across = 0;
        for (int p = 0; p < n; p++) {
            boolean is = true;
            for (int q = 0; q < n; q++) {
                is &= !in(set, q) || p == q || joined(p, q);
            }
            across |= is ? 1L << p : 0;
        }
        return across;
    }

    long spanned(long set) {
        for (long l : lines) {
            if (Long.bitCount(l & set) > 1 && (l & ~set) != 0) {
                return spanned(set | l);
            }
        }
        return set;
    }

    long hyper(int p, int q) {
        return across(across(1L << p | 1L << q));
    }

    int law() {
        for (int p = 0; p < n; p++) {
            for (int q = 0; q < p; q++) {
                if (Long.bitCount(through(p) & through(q)) > 1) {
                    return 1;
                }
            }
        }
        for (long l : lines) {
            if (Long.bitCount(l) != Long.bitCount(lines.get(0))) {
                return 2;
            }
        }
        for (int p = 0; p < n; p++) {
            if (Long.bitCount(through(p)) != Long.bitCount(through(0))) {
                return 3;
            }
        }
        for (int p = 0; p < n; p++) {
            for (long l : lines) {
                int many = 0;
                for (int q = 0; q < n; q++) {
                    many += in(l, q) && joined(p, q) ? 1 : 0;
                }
                if (!in(l, p) && many != 1) {
                    return 4;
                }
            }
        }
        return 0;
    }

    int order(boolean second) {
        if (lines.isEmpty() || law() != 0) {
            return -1;
        }
        return (second ? Long.bitCount(through(0)) : Long.bitCount(lines.get(0))) - 1;
    }

    int own(int k, boolean times) {
        int s = order(false);
        int t = order(true);
        if (s < 0) {
            return -1;
        }
        int[] numbers = {s * (t + 1), s - 1, -t - 1};
        int[] many = {1, s * t * (s + 1) * (t + 1) / (s + t), s * s * (s * t + 1) / (s + t)};
        return times ? many[k] : numbers[k];
    }

    int even(long set) {
        for (int m = 0; m <= n; m++) {
            boolean is = !lines.isEmpty();
            for (long l : lines) {
                is &= Long.bitCount(l & set) == m;
            }
            if (is) {
                return m;
            }
        }
        return -1;
    }

    int evens(int m) {
        int many = 0;
        for (int set = 0; set < 1 << n; set++) {
            boolean is = true;
            for (int i = 0; i < lines.size() && is; i++) {
                is = Long.bitCount(lines.get(i) & set) == m;
            }
            many += is ? 1 : 0;
        }
        return many;
    }

    int tight(long set) {
        for (int i = 0; i <= n; i++) {
            boolean is = !lines.isEmpty();
            for (int p = 0; p < n && is; p++) {
                int want = in(set, p) ? i + Long.bitCount(lines.get(0)) - 2 : i;
                is = Long.bitCount(near(p) & set) == want;
            }
            if (is) {
                return i;
            }
        }
        return -1;
    }

    long ovoids(boolean first) {
        List<Long> found = new ArrayList<>();
        tries = 0;
        seekOvoids(0, found, first);
        return answer(found, first);
    }

    long spreads(boolean first) {
        List<Long> found = new ArrayList<>();
        tries = 0;
        seekSpreads(0, found, first);
        return answer(found, first);
    }

    private long answer(List<Long> found, boolean first) {
        if (first && !found.isEmpty()) {
            return found.get(0);
        }
        return tries > 100000 ? -2 : first ? -1 : found.size();
    }

    private void seekOvoids(long taken, List<Long> found, boolean first) {
        for (long l : lines) {
            if ((l & taken) == 0) {
                for (int p = 0; p < n; p++) {
                    boolean free = in(l, p);
                    for (long m : lines) {
                        free &= !in(m, p) || (m & taken) == 0;
                    }
                    if (free && tries <= 100000 && !(first && !found.isEmpty())) {
                        tries++;
                        if (tries <= 100000) {
                            seekOvoids(taken | 1L << p, found, first);
                        }
                    }
                }
                return;
            }
        }
        found.add(taken);
    }

    private void seekSpreads(long taken, List<Long> found, boolean first) {
        long covered = 0;
        for (int i = 0; i < lines.size(); i++) {
            covered |= in(taken, i) ? lines.get(i) : 0;
        }
        for (int p = 0; p < n; p++) {
            if (!in(covered, p)) {
                for (int i = 0; i < lines.size(); i++) {
                    boolean free = in(lines.get(i), p) && (lines.get(i) & covered) == 0;
                    if (free && tries <= 100000 && !(first && !found.isEmpty())) {
                        tries++;
                        if (tries <= 100000) {
                            seekSpreads(taken | 1L << i, found, first);
                        }
                    }
                }
                return;
            }
        }
        found.add(taken);
    }

    long cap() {
        long best = 0;
        for (int set = 0; set < 1 << n; set++) {
            boolean is = Integer.bitCount(set) > Long.bitCount(best);
            for (int p = 0; p < n && is; p++) {
                is = !in(set, p) || (near(p) & set) == 0;
            }
            best = is ? set : best;
        }
        return best;
    }

    int triads(int c) {
        long[] nears = new long[n];
        for (int p = 0; p < n; p++) {
            nears[p] = near(p);
        }
        int many = 0;
        for (int i = 0; i < n; i++) {
            for (int j = 0; j < i; j++) {
                for (int k = 0; k < j; k++) {
                    boolean is = !in(nears[i], j) && !in(nears[i], k) && !in(nears[j], k);
                    int centres = 0;
                    for (int p = 0; p < n && is; p++) {
                        centres += in(nears[p], i) && in(nears[p], j) && in(nears[p], k) ? 1 : 0;
                    }
                    many += is && (c == -1 || c == centres) ? 1 : 0;
                }
            }
        }
        return many;
    }

    int walks(int k) {
        long[][] power = new long[n][n];
        long[][] joins = new long[n][n];
        for (int i = 0; i < n; i++) {
            power[i][i] = 1;
            for (int j = 0; j < n; j++) {
                joins[i][j] = joined(i, j) ? 1 : 0;
            }
        }
        for (int step = 0; step < k; step++) {
            long[][] next = new long[n][n];
            for (int i = 0; i < n; i++) {
                for (int j = 0; j < n; j++) {
                    for (int m = 0; m < n; m++) {
                        next[i][j] = (next[i][j] + power[i][m] * joins[m][j]) % 1000000007L;
                    }
                }
            }
            power = next;
        }
        long sum = 0;
        for (int i = 0; i < n; i++) {
            sum = (sum + power[i][i]) % 1000000007L;
        }
        return (int) sum;
    }

    /** Steps between all points and lines, without one step between a point and a line; -1: none. */
    private int[][] steps(int point, int line) {
        int size = n + lines.size();
        int[][] d = new int[size][size];
        for (int i = 0; i < size; i++) {
            for (int j = 0; j < size; j++) {
                d[i][j] = i == j ? 0 : 100000;
            }
        }
        for (int p = 0; p < n; p++) {
            for (int l = 0; l < lines.size(); l++) {
                if (in(lines.get(l), p) && !(p == point && l == line)) {
                    d[p][n + l] = 1;
                    d[n + l][p] = 1;
                }
            }
        }
        for (int m = 0; m < size; m++) {
            for (int i = 0; i < size; i++) {
                for (int j = 0; j < size; j++) {
                    d[i][j] = Math.min(d[i][j], d[i][m] + d[m][j]);
                }
            }
        }
        return d;
    }

    int far(int p, int q) {
        int far = steps(-1, -1)[p][q];
        return far > 1000 ? -1 : far;
    }

    int widest() {
        int[][] d = steps(-1, -1);
        int widest = -1;
        for (int p = 0; p < n; p++) {
            for (int q = 0; q < n; q++) {
                widest = d[p][q] > 1000 ? widest : Math.max(widest, d[p][q]);
            }
        }
        return widest;
    }

    /** The shortest ring on which a point and a line lie side by side is what is left of it, and that step. */
    int ring() {
        int least = 100000;
        for (int p = 0; p < n; p++) {
            for (int l = 0; l < lines.size(); l++) {
                if (in(lines.get(l), p)) {
                    least = Math.min(least, detour(p, l) + 1);
                }
            }
        }
        return least > 1000 ? -1 : least;
    }

    private int detour(int point, int line) {
        int[] d = new int[n + lines.size()];
        Arrays.fill(d, 100000);
        d[point] = 0;
        boolean changed = true;
        while (changed) {
            changed = false;
            for (int p = 0; p < n; p++) {
                for (int l = 0; l < lines.size(); l++) {
                    if (in(lines.get(l), p) && !(p == point && l == line)) {
                        int least = Math.min(d[p], d[n + l] + 1);
                        int leastLine = Math.min(d[n + l], d[p] + 1);
                        changed |= least != d[p] || leastLine != d[n + l];
                        d[p] = least;
                        d[n + l] = leastLine;
                    }
                }
            }
        }
        return d[n + line];
    }

    int parts() {
        int[] part = new int[n];
        for (int p = 0; p < n; p++) {
            part[p] = p;
        }
        for (int round = 0; round < n; round++) {
            for (long l : lines) {
                int least = n;
                for (int p = 0; p < n; p++) {
                    least = in(l, p) ? Math.min(least, part[p]) : least;
                }
                for (int p = 0; p < n; p++) {
                    part[p] = in(l, p) ? least : part[p];
                }
            }
        }
        return (int) Arrays.stream(part).distinct().count();
    }

    int rank(int p) {
        List<int[]> rows = new ArrayList<>();
        for (int q = 0; q < n; q++) {
            int[] row = new int[lines.size()];
            for (int l = 0; l < row.length; l++) {
                row[l] = in(lines.get(l), q) ? 1 : 0;
            }
            rows.add(row);
        }
        int rank = 0;
        for (int column = 0; column < lines.size(); column++) {
            int[] pivot = null;
            for (int[] row : rows) {
                if (row[column] != 0) {
                    pivot = row;
                }
            }
            if (pivot == null) {
                continue;
            }
            rank++;
            rows.remove(pivot);
            for (int[] row : rows) {
                while (row[column] != 0) {
                    for (int i = 0; i < row.length; i++) {
                        row[i] = (row[i] + pivot[i]) % p;
                    }
                }
            }
        }
        return rank;
    }

    int leastWord() {
        int dimension = n - rank(2);
        if (dimension > 16) {
            return -2;
        }
        int least = -1;
        for (int set = 1; set < 1 << n; set++) {
            boolean is = true;
            for (int i = 0; i < lines.size() && is; i++) {
                is = Long.bitCount(lines.get(i) & set) % 2 == 0;
            }
            least = is && (least < 0 || Integer.bitCount(set) < least) ? Integer.bitCount(set) : least;
        }
        return least;
    }

    private static void orders(int[] row, int at, List<int[]> into) {
        if (at == row.length) {
            into.add(row.clone());
        }
        for (int i = at; i < row.length; i++) {
            int kept = row[at];
            row[at] = row[i];
            row[i] = kept;
            orders(row, at + 1, into);
            row[i] = row[at];
            row[at] = kept;
        }
    }

    private List<int[]> ways(Plain other) {
        int[] row = new int[n];
        for (int i = 0; i < n; i++) {
            row[i] = i;
        }
        List<int[]> every = new ArrayList<>();
        orders(row, 0, every);
        List<Long> want = new ArrayList<>(other.lines);
        Collections.sort(want);
        List<int[]> good = new ArrayList<>();
        for (int[] way : every) {
            List<Long> got = new ArrayList<>();
            for (long l : lines) {
                long set = 0;
                for (int p = 0; p < n; p++) {
                    set |= in(l, p) ? 1L << way[p] : 0;
                }
                got.add(set);
            }
            Collections.sort(got);
            if (got.equals(want)) {
                good.add(way);
            }
        }
        return good;
    }

    boolean like(Plain other) {
        return n == other.n && lines.size() == other.lines.size() && !ways(other).isEmpty();
    }

    long turnings() {
        return ways(this).size();
    }

    long orbit(int p) {
        long set = 0;
        for (int[] way : ways(this)) {
            set |= 1L << way[p];
        }
        return set;
    }

    Plain dual() {
        Plain w = new Plain(lines.size());
        for (int p = 0; p < n; p++) {
            if (Long.bitCount(through(p)) > 1) {
                w.lines.add(through(p));
            }
        }
        return w;
    }

    Plain left(int point) {
        List<Integer> stay = new ArrayList<>();
        for (int p = 0; p < n; p++) {
            if (p != point && !joined(p, point)) {
                stay.add(p);
            }
        }
        Plain w = new Plain(stay.size());
        for (long l : lines) {
            long set = 0;
            for (int i = 0; i < stay.size(); i++) {
                set |= in(l, stay.get(i)) ? 1L << i : 0;
            }
            if (Long.bitCount(set) > 1) {
                w.lines.add(set);
            }
        }
        return w;
    }
}
