import java.util.ArrayList;
import java.util.Arrays;
import java.util.Collections;
import java.util.List;
import java.util.Random;

/** Promises 33 to 35 for worlds of up to 16 points and 64 lines, held against a search by traces. */
public final class TurningsTest {
    private static final int LIMIT = 20000;

    private final int n;
    private final List<Long> lines;
    private int tried;

    private TurningsTest(int n, List<Long> lines) {
        this.n = n;
        this.lines = lines;
    }

    public static void main(String[] args) {
        int worlds = args.length > 0 ? Integer.parseInt(args[0]) : 600;
        for (int seed = 0; seed < worlds; seed++) {
            compare(seed, new Random(seed));
        }
        Check.end("TurningsTest");
    }

    private static void compare(int seed, Random random) {
        TurningsTest plain = made(random);
        NoThrees x = plain.built();
        String name = "world " + seed + " of " + plain.n + " points, " + plain.lines;
        plain.due(name + ": turnings", plain.turnings(), x.turnings());
        if (plain.n == 0) {
            return;
        }
        int point = random.nextInt(plain.n);
        plain.due(name + ": orbit " + point, plain.orbit(point), x.orbit(point));
        x.image(0);
        TurningsTest other = plain.changed(random);
        x = other.rebuilt(x);
        other.due(name + ": like after " + other.lines, other.likeFrom(plain), x.like(0));
    }

    /** What took too long to reckon isn't compared. */
    private void due(String what, long want, long got) {
        if (tried <= LIMIT) {
            Check.due(what, want, got);
        }
        tried = 0;
    }

    private NoThrees built() {
        return rebuilt(new NoThrees());
    }

    private NoThrees rebuilt(NoThrees x) {
        Check.world(x, "points " + n + ";");
        for (long l : lines) {
            x.add(l);
        }
        return x;
    }

    // ---- the worlds that are tried

    private static TurningsTest made(Random random) {
        int n = random.nextInt(4) == 0 ? 2 + random.nextInt(15) : 16 - random.nextInt(3);
        List<Long> lines = new ArrayList<>();
        switch (random.nextInt(5)) {
            case 0:
                addClosed(lines, n, random);
                break;
            case 1:
                addRings(lines, n, random);
                break;
            case 2:
                addRegular(lines, n, random);
                break;
            case 3:
                addTwins(lines, n, random);
                break;
            default:
                addAny(lines, n, random);
        }
        while (lines.size() > 64) {
            lines.remove(lines.size() - 1);
        }
        return new TurningsTest(n, lines);
    }

    private static long anySet(int n, Random random) {
        long set = 0;
        int size = 2 + random.nextInt(Math.max(1, Math.min(n - 1, 7)));
        for (int i = 0; i < 3 * size && Long.bitCount(set) < size; i++) {
            set |= 1L << random.nextInt(n);
        }
        return Long.bitCount(set) < 2 ? 3 : set;
    }

    private static int[] anyOrder(int n, Random random) {
        List<Integer> order = new ArrayList<>();
        for (int i = 0; i < n; i++) {
            order.add(i);
        }
        Collections.shuffle(order, random);
        return order.stream().mapToInt(Integer::intValue).toArray();
    }

    private static long carried(long set, int[] way) {
        long image = 0;
        for (int p = 0; p < way.length; p++) {
            image |= (set >> p & 1) != 0 ? 1L << way[p] : 0;
        }
        return image;
    }

    /** Sets with all those to which some ways carry them. */
    private static void addClosed(List<Long> lines, int n, Random random) {
        List<int[]> ways = new ArrayList<>();
        for (int i = random.nextInt(3); i >= 0; i--) {
            ways.add(anyWay(n, random));
        }
        for (int turn = 0; turn < 12 && lines.size() < 60; turn++) {
            List<Long> sets = new ArrayList<>();
            sets.add(anySet(n, random));
            for (int i = 0; i < sets.size() && sets.size() <= 64; i++) {
                for (int[] way : ways) {
                    long image = carried(sets.get(i), way);
                    if (!sets.contains(image)) {
                        sets.add(image);
                    }
                }
            }
            for (int times = random.nextInt(6) == 0 ? 2 : 1; times > 0; times--) {
                if (lines.size() + sets.size() <= 64) {
                    lines.addAll(sets);
                }
            }
        }
    }

    /** Some have few steps of the same length, so that small sets of lines stay closed. */
    private static int[] anyWay(int n, Random random) {
        int[] order = anyOrder(n, random);
        int[] way = new int[n];
        int step = 2 + random.nextInt(4);
        for (int p = 0; p < n; p++) {
            int from = p / step * step;
            boolean whole = from + step <= n && (random.nextInt(20) > 0 || p % step > 0);
            way[order[p]] = whole ? order[from + (p - from + 1) % step] : order[p];
        }
        long seen = 0;
        for (int to : way) {
            seen |= 1L << to;
        }
        return Long.bitCount(seen) == n ? way : order;
    }

    private static void addRings(List<Long> lines, int n, Random random) {
        int[] order = anyOrder(n, random);
        int at = 0;
        while (at + 2 <= n) {
            int size = Math.min(n - at, 2 + random.nextInt(7));
            for (int i = 0; i < size && size > 1; i++) {
                lines.add(1L << order[at + i] | 1L << order[at + (i + 1) % size]);
            }
            at += size;
        }
    }

    /** Each point is on as many lines of as many points, as well as may be. */
    private static void addRegular(List<Long> lines, int n, Random random) {
        int size = 2 + random.nextInt(4);
        int[] uses = new int[n];
        int most = 2 + random.nextInt(5);
        for (int turn = 0; turn < 64 && lines.size() < 64; turn++) {
            long set = 0;
            for (int i = 0; i < 200 && Long.bitCount(set) < size; i++) {
                int p = random.nextInt(n);
                if (uses[p] < most && (set >> p & 1) == 0) {
                    set |= 1L << p;
                    uses[p]++;
                }
            }
            if (Long.bitCount(set) < 2) {
                break;
            }
            lines.add(set);
        }
    }

    /** Like parts side by side, and points that lie on the same lines. */
    private static void addTwins(List<Long> lines, int n, Random random) {
        int half = n / 2;
        if (half < 2) {
            return;
        }
        for (int i = 0; i < 8 + random.nextInt(20); i++) {
            long set = anySet(half, random);
            boolean asTwins = random.nextInt(3) == 0;
            lines.add(asTwins ? set | set << half : set);
            if (!asTwins && random.nextInt(12) > 0) {
                lines.add(set << half);
            }
        }
    }

    private static void addAny(List<Long> lines, int n, Random random) {
        for (int i = random.nextInt(65); i > 0; i--) {
            lines.add(anySet(n, random));
        }
    }

    /** The same world with its points and lines in another order; at times two points change lines. */
    private TurningsTest changed(Random random) {
        int[] order = anyOrder(n, random);
        List<Long> told = new ArrayList<>();
        for (long l : lines) {
            told.add(carried(l, order));
        }
        Collections.shuffle(told, random);
        if (told.size() > 1 && random.nextBoolean()) {
            long one = told.get(0);
            long other = told.get(1);
            long give = Long.lowestOneBit(one & ~other);
            long take = Long.lowestOneBit(other & ~one);
            told.set(0, one & ~give | take);
            told.set(1, other & ~take | give);
            if (Long.bitCount(told.get(0)) < 2 || Long.bitCount(told.get(1)) < 2) {
                told.set(0, one);
                told.set(1, other);
            }
        }
        return new TurningsTest(n, told);
    }

    // ---- the search by traces

    /** Points below one are kept: to how many places can it be carried, for each one. */
    private long turnings() {
        long many = 1;
        int[] order = new int[n];
        for (int p = 0; p < n; p++) {
            order[p] = p;
        }
        for (int p = 0; p < n; p++) {
            int places = 0;
            for (int to = p; to < n; to++) {
                int[] images = order.clone();
                images[p] = to;
                places += isWay(this, order, images, p + 1, p) ? 1 : 0;
            }
            many *= places;
        }
        return many;
    }

    private long orbit(int point) {
        int[] order = new int[n];
        order[0] = point;
        for (int p = 0, at = 1; p < n; p++) {
            if (p != point) {
                order[at++] = p;
            }
        }
        long set = 0;
        for (int to = 0; to < n; to++) {
            int[] images = new int[n];
            images[0] = to;
            set |= isWay(this, order, images, 1, 0) ? 1L << to : 0;
        }
        return set;
    }

    private long likeFrom(TurningsTest from) {
        int[] order = new int[n];
        for (int p = 0; p < n; p++) {
            order[p] = p;
        }
        return isWay(from, order, new int[n], 0, -1) ? 1 : 0;
    }

    /** Whether the first so many points of an order can go to their images, and all others somewhere. */
    private boolean isWay(TurningsTest from, int[] order, int[] images, int given, int checked) {
        long used = 0;
        for (int i = 0; i < given; i++) {
            used |= 1L << images[i];
        }
        if (given > 0 && given - 1 >= checked && !Arrays.equals(from.traces(order, given), traces(images, given))) {
            return false;
        }
        if (given == n) {
            return true;
        }
        for (int to = 0; to < n; to++) {
            if ((used >> to & 1) == 0 && tried <= LIMIT) {
                tried++;
                images[given] = to;
                if (isWay(from, order, images, given + 1, checked)) {
                    return true;
                }
            }
        }
        return false;
    }

    /** Of each line: which of the first so many points of an order it has; in order of size. */
    private long[] traces(int[] order, int given) {
        long[] traces = new long[lines.size()];
        for (int i = 0; i < traces.length; i++) {
            for (int j = 0; j < given; j++) {
                traces[i] |= (lines.get(i) >> order[j] & 1) << j;
            }
        }
        Arrays.sort(traces);
        return traces;
    }
}
