import java.util.Arrays;
import java.util.NoSuchElementException;

/** Worlds of points and lines: told or built, asked, changed, undone and kept. */
public final class NoThrees {
    public static final int NONE = -1;
    public static final int SPENT = -2;

    private static final int IMAGES = 3;
    private static final int TRAYS = 4;

    private final Reader reader = new Reader();
    private final World now = new World();
    private final World draft = new World();
    private final History history = new History();
    private final World[] images = new World[IMAGES];
    private final Tray[] trays = new Tray[TRAYS];
    private final Cover cover = new Cover();
    private final Ways ways = new Ways();
    private final Ranks ranks = new Ranks();
    private final Turner turner = new Turner();

    public NoThrees() {
    }

    // ---- the world

    public int feed(int a, int b, int c, int d, int e) {
        if (!reader.hasRoomFor(20)) {
            return NONE;
        }
        reader.put(a);
        reader.put(b);
        reader.put(c);
        reader.put(d);
        reader.put(e);
        return reader.held;
    }

    public int world(int n) throws IllegalArgumentException {
        if (n < 0 || n > reader.held) {
            throw new IllegalArgumentException("not so many bytes on the tape");
        }
        if (!reader.read(n, draft)) {
            return -10 - reader.wrong;
        }
        now.copy(draft);
        history.forget();
        return now.lines;
    }

    public int fault(int what) {
        if (what == 0) {
            return reader.wrong;
        }
        return what == 1 ? reader.wrongAt : NONE;
    }

    public long line(int line) throws NoSuchElementException {
        needLine(line);
        return now.setAt(line);
    }

    public long through(int point) throws NoSuchElementException {
        needPoint(point);
        return now.throughAt(point);
    }

    public int joined(int one, int other) throws NoSuchElementException {
        needPoint(one);
        needPoint(other);
        return World.lowest(now.throughAt(one) & now.throughAt(other));
    }

    public long near(int point) throws NoSuchElementException {
        needPoint(point);
        return now.nearAt(point);
    }

    public long across(long set) throws IllegalArgumentException {
        needPoints(set);
        return now.acrossFrom(set);
    }

    public long spanned(long set) throws IllegalArgumentException {
        needPoints(set);
        return now.spanOf(set);
    }

    public long hyper(int one, int other) throws NoSuchElementException {
        needPoint(one);
        needPoint(other);
        return now.hyperOf(one, other);
    }

    public boolean regular(int one, int other) throws NoSuchElementException {
        needPoint(one);
        needPoint(other);
        // Where there is no HYPER it is 0, though a POINT without LINES has as many.
        long hyper = now.hyperOf(one, other);
        return hyper != 0 && Long.bitCount(hyper) == Long.bitCount(now.throughAt(one));
    }

    public int own(int k, boolean times) throws IllegalArgumentException {
        if (k < 0 || k > 2) {
            throw new IllegalArgumentException("no such own number");
        }
        return times ? Laws.ownTimes(now, k) : Laws.ownNumber(now, k);
    }

    public int law() {
        return Laws.firstBroken(now);
    }

    public int order(boolean second) {
        return second ? Laws.secondOrder(now) : Laws.firstOrder(now);
    }

    // ---- sets

    public int meets(long set, int line) throws NoSuchElementException, IllegalArgumentException {
        needLine(line);
        needPoints(set);
        return Long.bitCount(now.setAt(line) & set);
    }

    public int even(long set) throws IllegalArgumentException {
        needPoints(set);
        return Sets.evenBy(now, set);
    }

    public int evens(int m) {
        return Sets.evenMany(now, m);
    }

    public int tight(long set) throws IllegalArgumentException {
        needPoints(set);
        return Sets.tightBy(now, set);
    }

    public long ovoid() {
        cover.takePoints(now);
        cover.seek(true);
        return cover.firstFound();
    }

    public int ovoids() {
        cover.takePoints(now);
        cover.seek(false);
        return cover.manyFound();
    }

    public long spread() {
        cover.takeLines(now);
        cover.seek(true);
        return cover.firstFound();
    }

    public int spreads() {
        cover.takeLines(now);
        cover.seek(false);
        return cover.manyFound();
    }

    public long cap() {
        return Sets.greatestCap(now);
    }

    public int triads(int c) {
        return Sets.triadsWith(now, c);
    }

    // ---- counts

    public int walks(int k) throws IllegalArgumentException {
        if (k < 0 || k > Ways.LONGEST_WALK) {
            throw new IllegalArgumentException("no walks of so many steps");
        }
        return ways.closedWalks(now, k);
    }

    public int far(int one, int other) throws NoSuchElementException {
        needPoint(one);
        needPoint(other);
        return Ways.between(now, one, other);
    }

    public int widest() {
        return Ways.greatestBetween(now);
    }

    public int ring() {
        return ways.shortestRing(now);
    }

    public int parts() {
        return Ways.pieces(now);
    }

    public int rank(int p) throws IllegalArgumentException {
        if (p != 2 && p != 3 && p != 5 && p != 7) {
            throw new IllegalArgumentException("no such field");
        }
        return ranks.rankOver(now, p);
    }

    public int code(int what) throws IllegalArgumentException {
        if (what != 0 && what != 1) {
            throw new IllegalArgumentException("nothing else is told of the code");
        }
        return what == 0 ? ranks.dimension(now) : ranks.leastWord(now);
    }

    // ---- alike

    public long turnings() {
        return now.points > Turner.MOST ? NONE : turner.countTurnings(now);
    }

    public long orbit(int point) throws NoSuchElementException {
        needPoint(point);
        if (now.points > Turner.MOST) {
            return 0;
        }
        turner.countTurnings(now);
        return turner.classOf(point);
    }

    public int like(int image) throws NoSuchElementException, IllegalStateException {
        World other = imageAt(image);
        if (now.points > Turner.MOST || other.points > Turner.MOST) {
            return NONE;
        }
        turner.countTurnings(now);
        return turner.areAlike(now, other) ? 1 : 0;
    }

    // ---- acts

    public int add(long set) throws IllegalArgumentException {
        needPoints(set);
        if (Long.bitCount(set) < 2) {
            throw new IllegalArgumentException("a line has two points or more");
        }
        return addLine(set) ? now.lines - 1 : NONE;
    }

    public long drop(int line) throws NoSuchElementException {
        needLine(line);
        return dropLine(line);
    }

    public int dual() {
        turnDual();
        return now.points;
    }

    public int left(int point) throws NoSuchElementException {
        needPoint(point);
        keepLeft(point);
        return now.points;
    }

    public boolean undo() {
        return history.goBack(now);
    }

    public boolean again() {
        return history.goOn(now);
    }

    public int perform(int tray) throws NoSuchElementException, IllegalStateException {
        Tray row = trayAt(tray);
        int used = 0;
        for (int turn = 0; turn < Tray.MOST && used < row.size; turn++) {
            int more = actAt(row, used);
            if (more == 0) {
                break;
            }
            used += more;
        }
        return used;
    }

    // ---- trays, images

    public void tray(int tray, int sort, int many) throws NoSuchElementException, IllegalArgumentException {
        if (tray < 0 || tray >= TRAYS) {
            throw new NoSuchElementException("no such tray");
        }
        if (sort < 0 || sort > 3 || many < 0 || many > Tray.MOST) {
            throw new IllegalArgumentException("no such tray can be made");
        }
        Tray row = trays[tray];
        if (row == null) {
            row = new Tray();
            trays[tray] = row;
        }
        row.becomeEmpty(sort, many);
    }

    public long write(int tray, int place, long v)
            throws NoSuchElementException, IllegalStateException, IndexOutOfBoundsException {
        Tray row = trayAt(tray);
        if (place < 0 || place >= row.size) {
            throw new IndexOutOfBoundsException("no such place");
        }
        row.put(place, v);
        return row.cellAt(place);
    }

    public int pour(int tray) throws NoSuchElementException, IllegalStateException {
        Tray row = trayAt(tray);
        int many = Math.min(row.size, now.lines);
        for (int i = 0; i < many; i++) {
            row.put(i, now.setAt(i));
        }
        return many;
    }

    public void image(int i) throws NoSuchElementException {
        if (i < 0 || i >= IMAGES) {
            throw new NoSuchElementException("no such image");
        }
        World kept = images[i];
        if (kept == null) {
            kept = new World();
            images[i] = kept;
        }
        kept.copy(now);
    }

    public void restore(int i) throws NoSuchElementException, IllegalStateException {
        now.copy(imageAt(i));
        history.forget();
    }

    public int count(int what) {
        switch (what) {
            case 0:
                return now.points;
            case 1:
                return now.lines;
            case 2:
                return reader.held;
            case 3:
                return history.behind;
            case 4:
                return history.ahead;
            default:
                return NONE;
        }
    }

    // ---- what calls need

    private void needPoint(int point) {
        if (!now.hasPoint(point)) {
            throw new NoSuchElementException("no such point");
        }
    }

    private void needLine(int line) {
        if (!now.hasLine(line)) {
            throw new NoSuchElementException("no such line");
        }
    }

    private void needPoints(long set) {
        if ((set & ~now.all()) != 0) {
            throw new IllegalArgumentException("a set with others than points");
        }
    }

    private Tray trayAt(int tray) {
        if (tray < 0 || tray >= TRAYS) {
            throw new NoSuchElementException("no such tray");
        }
        Tray row = trays[tray];
        if (row == null) {
            throw new IllegalStateException("the tray is missing");
        }
        return row;
    }

    private World imageAt(int i) {
        if (i < 0 || i >= IMAGES) {
            throw new NoSuchElementException("no such image");
        }
        World kept = images[i];
        if (kept == null) {
            throw new IllegalStateException("no such image was made");
        }
        return kept;
    }

    // ---- how acts are done

    private boolean addLine(long set) {
        if (now.lines >= World.MOST) {
            return false;
        }
        history.keep(now);
        now.append(set);
        now.settle();
        return true;
    }

    private long dropLine(int line) {
        long set = now.setAt(line);
        history.keep(now);
        now.remove(line);
        now.settle();
        return set;
    }

    private void turnDual() {
        history.keep(now);
        draft.becomeDualOf(now);
        now.copy(draft);
    }

    private void keepLeft(int point) {
        history.keep(now);
        draft.becomeLeftOf(now, point);
        now.copy(draft);
    }

    /** How many numbers the act that is told at a place used up; 0: it can't be. */
    private int actAt(Tray row, int at) {
        long what = row.cellAt(at);
        if (what == -1) {
            return addTold(row, at);
        }
        if (what == -2 || what == -4) {
            return doTold(what == -2, row, at);
        }
        if (what == -3) {
            turnDual();
            return 1;
        }
        if (what == -5) {
            return history.goBack(now) ? 1 : 0;
        }
        if (what == -6) {
            return history.goOn(now) ? 1 : 0;
        }
        return 0;
    }

    private int addTold(Tray row, int at) {
        long set = 0;
        int used = 1;
        for (int i = at + 1; i < row.size && row.cellAt(i) >= 0; i++) {
            long point = row.cellAt(i);
            if (point >= now.points) {
                return 0;
            }
            set |= 1L << (int) point;
            used++;
        }
        return Long.bitCount(set) >= 2 && addLine(set) ? used : 0;
    }

    private int doTold(boolean dropping, Tray row, int at) {
        if (at + 1 >= row.size) {
            return 0;
        }
        long told = row.cellAt(at + 1);
        if (told < 0 || told >= (dropping ? now.lines : now.points)) {
            return 0;
        }
        if (dropping) {
            dropLine((int) told);
        } else {
            keepLeft((int) told);
        }
        return 2;
    }

    /** Points, lines, and what follows from them: what is near to each point and goes through it. */
    private static final class World {
        private static final int MOST = 64;

        private int points;
        private int lines;
        private final long[] sets = new long[MOST];
        private final long[] nears = new long[MOST];
        private final long[] throughs = new long[MOST];

        /** The first many of 64 bits. */
        static long first(int many) {
            if (many <= 0) {
                return 0;
            }
            return many >= 64 ? -1L : (1L << many) - 1;
        }

        static boolean has(long set, int i) {
            return (set >>> i & 1L) != 0;
        }

        static int lowest(long set) {
            return set == 0 ? NONE : Long.numberOfTrailingZeros(set);
        }

        long all() {
            return first(points);
        }

        boolean hasPoint(int point) {
            return point >= 0 && point < points;
        }

        boolean hasLine(int line) {
            return line >= 0 && line < lines;
        }

        long setAt(int line) {
            return line >= 0 && line < lines && line < MOST ? sets[line] : 0;
        }

        long nearAt(int point) {
            return point >= 0 && point < points && point < MOST ? nears[point] : 0;
        }

        long throughAt(int point) {
            return point >= 0 && point < points && point < MOST ? throughs[point] : 0;
        }

        void clear(int many) {
            points = many < 0 ? 0 : Math.min(many, MOST);
            lines = 0;
        }

        void append(long set) {
            if (lines >= 0 && lines < MOST) {
                sets[lines] = set;
                lines++;
            }
        }

        void remove(int line) {
            if (!hasLine(line)) {
                return;
            }
            for (int i = line; i + 1 < lines && i + 1 < MOST; i++) {
                sets[i] = sets[i + 1];
            }
            lines--;
        }

        /** To be called when points and lines have changed. */
        void settle() {
            for (int p = 0; p < MOST; p++) {
                long near = 0;
                long through = 0;
                for (int i = 0; i < lines && i < MOST; i++) {
                    if (has(sets[i], p)) {
                        near |= sets[i];
                        through |= 1L << i;
                    }
                }
                nears[p] = near & ~(1L << p);
                throughs[p] = through;
            }
        }

        void copy(World from) {
            points = from.points;
            lines = from.lines;
            System.arraycopy(from.sets, 0, sets, 0, MOST);
            System.arraycopy(from.nears, 0, nears, 0, MOST);
            System.arraycopy(from.throughs, 0, throughs, 0, MOST);
        }

        void becomeDualOf(World from) {
            clear(from.lines);
            for (int p = 0; p < from.points; p++) {
                appendIfLine(from.throughAt(p));
            }
            settle();
        }

        void becomeLeftOf(World from, int point) {
            long stay = from.all() & ~(from.nearAt(point) | 1L << point);
            clear(Long.bitCount(stay));
            for (int i = 0; i < from.lines; i++) {
                appendIfLine(renumbered(from.setAt(i), stay));
            }
            settle();
        }

        private void appendIfLine(long set) {
            if (Long.bitCount(set) >= 2) {
                append(set);
            }
        }

        private static long renumbered(long set, long stay) {
            long anew = 0;
            int number = 0;
            for (int p = 0; p < MOST; p++) {
                if (has(stay, p)) {
                    if (has(set, p)) {
                        anew |= 1L << number;
                    }
                    number++;
                }
            }
            return anew;
        }

        long acrossFrom(long set) {
            long rest = all();
            for (int p = 0; p < points; p++) {
                if (has(set, p)) {
                    rest &= nearAt(p) | 1L << p;
                }
            }
            return rest;
        }

        long spanOf(long set) {
            long span = set;
            // Each round but the last brings a point, so that there are at most 65.
            for (int round = 0; round <= MOST; round++) {
                long before = span;
                for (int i = 0; i < lines; i++) {
                    if (Long.bitCount(setAt(i) & span) >= 2) {
                        span |= setAt(i);
                    }
                }
                if (span == before) {
                    break;
                }
            }
            return span;
        }

        /** 0: the points are one, or joined. */
        long hyperOf(int one, int other) {
            if (one == other || has(nearAt(one), other)) {
                return 0;
            }
            return acrossFrom(acrossFrom(1L << one | 1L << other));
        }
    }

    /** Builds the worlds that have a name. */
    private static final class Maker {
        private static final int PAIRS = 15;
        private static final int VECTORS = 40;

        private final int[] pairs = new int[PAIRS];
        private final int[] vectors = new int[VECTORS];
        /** Of four numbers, told as one to the base of three: the point; NONE: none. */
        private final int[] numbers = new int[81];

        Maker() {
            int pair = 0;
            for (int i = 0; i < 6; i++) {
                for (int j = i + 1; j < 6 && pair < PAIRS; j++) {
                    pairs[pair] = 1 << i | 1 << j;
                    pair++;
                }
            }
            int point = 0;
            for (int v = 0; v < 81; v++) {
                boolean is = v == 1 || v >= 3 && v < 6 || v >= 9 && v < 18 || v >= 27 && v < 54;
                numbers[v] = is ? point : NONE;
                if (is && point < VECTORS) {
                    vectors[point] = v;
                    point++;
                }
            }
        }

        void makeGrid(World into, int a, int b) {
            into.clear(a * b);
            for (int i = 0; i < a; i++) {
                into.append(World.first(b) << b * i);
            }
            for (int j = 0; j < b; j++) {
                long set = 0;
                for (int i = 0; i < a; i++) {
                    set |= 1L << b * i + j;
                }
                into.append(set);
            }
        }

        void makeDuads(World into) {
            into.clear(PAIRS);
            appendDuads(into, 0);
        }

        void makeSixes(World into) {
            into.clear(12 + PAIRS);
            for (int i = 0; i < 6; i++) {
                for (int j = 0; j < 6; j++) {
                    if (j != i) {
                        into.append(1L << i | 1L << 6 + j | 1L << 12 + pairOf(i, j));
                    }
                }
            }
            appendDuads(into, 12);
        }

        private int pairOf(int i, int j) {
            int both = 1 << i | 1 << j;
            for (int pair = 0; pair < PAIRS; pair++) {
                if (pairs[pair] == both) {
                    return pair;
                }
            }
            return 0;
        }

        private void appendDuads(World into, int from) {
            for (int p = 0; p < PAIRS; p++) {
                for (int q = p + 1; q < PAIRS; q++) {
                    for (int r = q + 1; r < PAIRS; r++) {
                        if ((pairs[p] & pairs[q]) == 0 && (pairs[p] | pairs[q] | pairs[r]) == 63) {
                            into.append(1L << from + p | 1L << from + q | 1L << from + r);
                        }
                    }
                }
            }
        }

        void makeThrees(World into) {
            into.clear(VECTORS);
            for (int p = 0; p < VECTORS; p++) {
                for (int q = p + 1; q < VECTORS; q++) {
                    if (areJoined(vectors[p], vectors[q])) {
                        int sum = pointOf(vectors[p], vectors[q], 1);
                        int difference = pointOf(vectors[p], vectors[q], 2);
                        // A line is told by its two least points alone.
                        if (sum > q && difference > q) {
                            into.append(1L << p | 1L << q | 1L << sum | 1L << difference);
                        }
                    }
                }
            }
        }

        private static boolean areJoined(int v, int w) {
            int form = v / 27 * (w / 9 % 3) - v / 9 % 3 * (w / 27) + v / 3 % 3 * (w % 3) - v % 3 * (w / 3 % 3);
            return form % 3 == 0;
        }

        /** The point of one and so many times another, or of twice that. */
        private int pointOf(int v, int w, int times) {
            int once = 0;
            int twice = 0;
            for (int unit = 1; unit <= 27; unit *= 3) {
                int digit = (v / unit % 3 + times * (w / unit % 3)) % 3;
                once += unit * digit;
                twice += unit * (2 * digit % 3);
            }
            int point = once >= 0 && once < 81 ? numbers[once] : NONE;
            if (point == NONE && twice >= 0 && twice < 81) {
                point = numbers[twice];
            }
            return point;
        }
    }

    /** The tape, and what reads a world from it: a token at a time, up to the first fault. */
    private static final class Reader {
        private static final int ROOM = 700;

        private static final int END = 0;
        private static final int STOP = 1;
        private static final int NUMBER = 2;
        private static final int BAD = 3;
        private static final int OTHER_WORD = 4;
        private static final int POINTS = 5;
        private static final int GRID = 6;
        private static final int DUADS = 7;
        private static final int SIXES = 8;
        private static final int THREES = 9;
        private static final int LINE = 10;

        private static final int NO_TOKEN = 1;
        private static final int MISPLACED = 2;
        private static final int OUT_OF_BOUNDS = 3;
        private static final int TOO_MANY = 4;

        private final Maker maker = new Maker();
        private final byte[] tape = new byte[ROOM];
        private int held;
        private int length;
        private int token;
        private int value;
        private int from;
        private int to;
        private int wrong;
        private int wrongAt = NONE;

        boolean hasRoomFor(int many) {
            return held + many <= ROOM;
        }

        void put(int four) {
            for (int shift = 24; shift >= 0; shift -= 8) {
                if (held >= 0 && held < ROOM) {
                    tape[held] = (byte) (four >> shift);
                    held++;
                }
            }
        }

        /** Whether there is no fault; the tape is empty then. */
        boolean read(int n, World into) {
            length = Math.min(n, ROOM);
            to = 0;
            wrong = 0;
            wrongAt = NONE;
            into.clear(0);
            step();
            if (token != END) {
                readFirst(into);
            }
            for (int turn = 0; turn < ROOM && wrong == 0 && token != END; turn++) {
                readLine(into);
            }
            into.settle();
            held = 0;
            return wrong == 0;
        }

        private void readFirst(World into) {
            switch (token) {
                case POINTS:
                    into.clear(readNumber(1, 64));
                    break;
                case GRID:
                    int a = readNumber(2, 8);
                    int b = wrong == 0 ? readNumber(2, 8) : 0;
                    if (wrong == 0) {
                        maker.makeGrid(into, a, b);
                    }
                    break;
                case DUADS:
                    maker.makeDuads(into);
                    break;
                case SIXES:
                    maker.makeSixes(into);
                    break;
                case THREES:
                    maker.makeThrees(into);
                    break;
                default:
                    refuse(MISPLACED);
            }
            if (wrong == 0) {
                step();
                readStop();
            }
        }

        /** 0 with a fault. */
        private int readNumber(int least, int most) {
            step();
            if (token != NUMBER) {
                refuse(MISPLACED);
            } else if (value < least || value > most) {
                refuse(OUT_OF_BOUNDS);
            }
            return wrong == 0 ? value : 0;
        }

        private void readStop() {
            if (token == STOP) {
                step();
            } else {
                refuse(MISPLACED);
            }
        }

        private void readLine(World into) {
            if (token != LINE) {
                refuse(MISPLACED);
                return;
            }
            if (into.lines >= World.MOST) {
                refuse(TOO_MANY);
                return;
            }
            long set = 0;
            step();
            // No line has more than 64 unlike points: the number behind them is refused.
            for (int turn = 0; turn <= World.MOST && token == NUMBER; turn++) {
                if (!into.hasPoint(value) || World.has(set, value)) {
                    refuse(OUT_OF_BOUNDS);
                    return;
                }
                set |= 1L << value;
                step();
            }
            if (Long.bitCount(set) < 2) {
                refuse(MISPLACED);
                return;
            }
            into.append(set);
            readStop();
        }

        private void refuse(int kind) {
            wrong = token == BAD ? NO_TOKEN : kind;
            wrongAt = from;
        }

        /** Goes on to the next token. */
        private void step() {
            from = to;
            while (from < length && isBlank(byteAt(from))) {
                from++;
            }
            to = from;
            if (from >= length) {
                token = END;
                return;
            }
            to++;
            int sign = byteAt(from);
            if (isDigit(sign)) {
                stepNumber();
            } else if (isLetter(sign)) {
                stepWord();
            } else {
                token = sign == ';' ? STOP : BAD;
            }
        }

        private void stepNumber() {
            value = byteAt(from) - '0';
            while (to < length && isDigit(byteAt(to))) {
                // Beyond three digits the value is of no use, and must not grow.
                value = to - from < 3 ? value * 10 + byteAt(to) - '0' : value;
                to++;
            }
            token = to - from <= 3 ? NUMBER : BAD;
        }

        private void stepWord() {
            while (to < length && isLetter(byteAt(to))) {
                to++;
            }
            token = OTHER_WORD;
            if (isWord("points")) {
                token = POINTS;
            } else if (isWord("grid")) {
                token = GRID;
            } else if (isWord("duads")) {
                token = DUADS;
            } else if (isWord("sixes")) {
                token = SIXES;
            } else if (isWord("threes")) {
                token = THREES;
            } else if (isWord("line")) {
                token = LINE;
            }
        }

        private boolean isWord(String word) {
            if (word.length() != to - from) {
                return false;
            }
            for (int i = 0; i < word.length(); i++) {
                if (word.charAt(i) != byteAt(from + i)) {
                    return false;
                }
            }
            return true;
        }

        private int byteAt(int place) {
            return place >= 0 && place < ROOM ? tape[place] & 255 : 0;
        }

        private static boolean isBlank(int sign) {
            return sign == 10 || sign == 32;
        }

        private static boolean isDigit(int sign) {
            return sign >= '0' && sign <= '9';
        }

        private static boolean isLetter(int sign) {
            return sign >= 'a' && sign <= 'z';
        }
    }

    /** The laws, the orders, and the own numbers that follow from them. */
    private static final class Laws {
        static int firstBroken(World w) {
            if (!linesMeetOnce(w)) {
                return 1;
            }
            if (!linesAreAsLong(w)) {
                return 2;
            }
            if (!pointsHaveAsMany(w)) {
                return 3;
            }
            return justOneIsJoined(w) ? 0 : 4;
        }

        private static boolean linesMeetOnce(World w) {
            for (int i = 0; i < w.lines; i++) {
                for (int j = 0; j < i; j++) {
                    if (Long.bitCount(w.setAt(i) & w.setAt(j)) >= 2) {
                        return false;
                    }
                }
            }
            return true;
        }

        private static boolean linesAreAsLong(World w) {
            for (int i = 1; i < w.lines; i++) {
                if (Long.bitCount(w.setAt(i)) != Long.bitCount(w.setAt(0))) {
                    return false;
                }
            }
            return true;
        }

        private static boolean pointsHaveAsMany(World w) {
            for (int p = 1; p < w.points; p++) {
                if (Long.bitCount(w.throughAt(p)) != Long.bitCount(w.throughAt(0))) {
                    return false;
                }
            }
            return true;
        }

        private static boolean justOneIsJoined(World w) {
            for (int p = 0; p < w.points; p++) {
                long near = w.nearAt(p);
                for (int i = 0; i < w.lines; i++) {
                    if (!World.has(w.setAt(i), p) && Long.bitCount(near & w.setAt(i)) != 1) {
                        return false;
                    }
                }
            }
            return true;
        }

        private static boolean haveOrders(World w) {
            return w.lines > 0 && firstBroken(w) == 0;
        }

        static int firstOrder(World w) {
            return haveOrders(w) ? Long.bitCount(w.setAt(0)) - 1 : NONE;
        }

        static int secondOrder(World w) {
            return haveOrders(w) ? Long.bitCount(w.throughAt(0)) - 1 : NONE;
        }

        static int ownNumber(World w, int k) {
            int s = firstOrder(w);
            int t = secondOrder(w);
            if (s < 0 || t < 0 || s + t == 0) {
                return NONE;
            }
            if (k == 0) {
                return s * (t + 1);
            }
            return k == 1 ? s - 1 : -t - 1;
        }

        static int ownTimes(World w, int k) {
            int s = firstOrder(w);
            int t = secondOrder(w);
            if (s < 0 || t < 0 || s + t == 0) {
                return NONE;
            }
            if (k == 0) {
                return 1;
            }
            return k == 1 ? s * t * (s + 1) * (t + 1) / (s + t) : s * s * (s * t + 1) / (s + t);
        }
    }

    /** Sets that meet each line evenly, tight ones, caps and triads. */
    private static final class Sets {
        private static final int MOST_FOR_EVENS = 16;
        private static final int MOST_FOR_CAP = 27;

        static int evenBy(World w, long set) {
            if (w.lines == 0) {
                return NONE;
            }
            int by = Long.bitCount(w.setAt(0) & set);
            for (int i = 1; i < w.lines; i++) {
                if (Long.bitCount(w.setAt(i) & set) != by) {
                    return NONE;
                }
            }
            return by;
        }

        static int evenMany(World w, int m) {
            return w.points > MOST_FOR_EVENS ? NONE : evensFrom(w, m, 0, 0);
        }

        /** How many ways there are to go on from a point, when those before it are chosen or not. */
        private static int evensFrom(World w, int m, int point, long chosen) {
            if (point >= w.points || point >= MOST_FOR_EVENS) {
                return 1;
            }
            if (w.throughAt(point) == 0) {
                return 2 * evensFrom(w, m, point + 1, chosen);
            }
            int many = 0;
            if (canBeEven(w, m, point, chosen)) {
                many += evensFrom(w, m, point + 1, chosen);
            }
            if (canBeEven(w, m, point, chosen | 1L << point)) {
                many += evensFrom(w, m, point + 1, chosen | 1L << point);
            }
            return many;
        }

        /** Whether lines through a point can still meet a set in just m, when points up to it are settled. */
        private static boolean canBeEven(World w, int m, int point, long chosen) {
            long open = ~World.first(point + 1);
            long through = w.throughAt(point);
            for (int i = 0; i < w.lines; i++) {
                if (World.has(through, i)) {
                    int least = Long.bitCount(w.setAt(i) & chosen);
                    if (least > m || least + Long.bitCount(w.setAt(i) & open) < m) {
                        return false;
                    }
                }
            }
            return true;
        }

        static int tightBy(World w, long set) {
            if (w.lines == 0) {
                return NONE;
            }
            int within = Long.bitCount(w.setAt(0)) - 2;
            int by = NONE;
            for (int p = 0; p < w.points; p++) {
                int i = Long.bitCount(w.nearAt(p) & set) - (World.has(set, p) ? within : 0);
                if (i < 0 || p > 0 && i != by) {
                    return NONE;
                }
                by = i;
            }
            return by;
        }

        static long greatestCap(World w) {
            if (w.points > MOST_FOR_CAP) {
                return NONE;
            }
            int want = mostUnjoined(w, w.all(), 0);
            long open = w.all();
            long taken = 0;
            // The least as bits leaves out the highest point that it can.
            for (int p = w.points - 1; p >= 0; p--) {
                if (World.has(open, p)) {
                    open &= ~(1L << p);
                    if (mostUnjoined(w, open, 0) < want) {
                        taken |= 1L << p;
                        open &= ~w.nearAt(p);
                        want--;
                    }
                }
            }
            return taken;
        }

        /** How many points of a set there can be of which no two are joined. */
        private static int mostUnjoined(World w, long among, int depth) {
            if (depth > MOST_FOR_CAP) {
                return 0;
            }
            long rest = among;
            int sure = 0;
            for (int turn = 0; turn <= MOST_FOR_CAP && rest != 0; turn++) {
                int point = loosestOrBusiest(w, rest);
                long others = rest & ~(1L << point);
                long far = others & ~w.nearAt(point);
                // What is left of points with two near ones each are rings: any point will do.
                if (Long.bitCount(rest & w.nearAt(point)) > 2) {
                    int with = 1 + mostUnjoined(w, far, depth + 1);
                    int without = mostUnjoined(w, others, depth + 1);
                    return sure + Math.max(with, without);
                }
                sure++;
                rest = far;
            }
            return sure;
        }

        /** A point that has at most one near to it in a set, or else one that has the most. */
        private static int loosestOrBusiest(World w, long set) {
            int busiest = World.lowest(set);
            int most = NONE;
            for (int p = 0; p < w.points; p++) {
                if (World.has(set, p)) {
                    int many = Long.bitCount(set & w.nearAt(p));
                    if (many <= 1) {
                        return p;
                    }
                    if (many > most) {
                        most = many;
                        busiest = p;
                    }
                }
            }
            return busiest;
        }

        static int triadsWith(World w, int c) {
            int many = 0;
            for (int i = 0; i < w.points; i++) {
                for (int j = i + 1; j < w.points; j++) {
                    if (!World.has(w.nearAt(i), j)) {
                        many += triadsOf(w, i, j, c);
                    }
                }
            }
            return many;
        }

        private static int triadsOf(World w, int i, int j, int c) {
            long apart = w.all() & ~World.first(j + 1) & ~w.nearAt(i) & ~w.nearAt(j);
            if (c == NONE) {
                return Long.bitCount(apart);
            }
            long both = w.nearAt(i) & w.nearAt(j);
            int many = 0;
            for (int k = j + 1; k < w.points; k++) {
                if (World.has(apart, k) && Long.bitCount(both & w.nearAt(k)) == c) {
                    many++;
                }
            }
            return many;
        }
    }

    /** Seeks sets of choices that hit each thing just once: points on lines, or lines on points. */
    private static final class Cover {
        private static final int MOST_TRIES = 100000;

        private final long[] choices = new long[World.MOST];
        private final long[] hits = new long[World.MOST];
        private final long[] barredBy = new long[World.MOST];
        /** All things. */
        private long goal;

        private final long[] open = new long[World.MOST + 1];
        private final long[] hit = new long[World.MOST + 1];
        private final long[] barred = new long[World.MOST + 1];
        private final long[] taken = new long[World.MOST + 1];

        private int found;
        private long best;
        private boolean spent;

        void takePoints(World w) {
            goal = World.first(w.lines);
            for (int i = 0; i < World.MOST; i++) {
                choices[i] = w.setAt(i);
                hits[i] = w.throughAt(i);
            }
            bar();
        }

        void takeLines(World w) {
            goal = w.all();
            for (int i = 0; i < World.MOST; i++) {
                choices[i] = w.throughAt(i);
                hits[i] = w.setAt(i);
            }
            bar();
        }

        /** A choice bars those that hit one of the things that it hits. */
        private void bar() {
            for (int i = 0; i < World.MOST; i++) {
                barredBy[i] = 0;
                for (int thing = 0; thing < World.MOST; thing++) {
                    if (World.has(hits[i], thing)) {
                        barredBy[i] |= choices[thing];
                    }
                }
            }
        }

        void seek(boolean onlyOne) {
            found = 0;
            best = 0;
            spent = false;
            if (goal == 0) {
                found = 1;
                return;
            }
            begin(0, 0, 0, 0);
            int depth = 0;
            int tries = 0;
            // Each turn is a try, or gives back one that was made: twice as many do.
            for (int turn = 0; turn <= 2 * MOST_TRIES + 2 && depth >= 0 && depth <= World.MOST; turn++) {
                long left = open[depth];
                if (left == 0) {
                    depth--;
                    continue;
                }
                if (tries >= MOST_TRIES) {
                    spent = true;
                    return;
                }
                tries++;
                open[depth] = left & left - 1;
                if (goesDeeper(depth, Long.numberOfTrailingZeros(left))) {
                    depth++;
                } else if (onlyOne) {
                    return;
                }
            }
        }

        /** Whether there are things left that aren't hit, when a choice is taken too. */
        private boolean goesDeeper(int depth, int choice) {
            if (depth < 0 || depth >= World.MOST || choice < 0 || choice >= World.MOST) {
                return false;
            }
            long hitNow = hit[depth] | hits[choice];
            long takenNow = taken[depth] | 1L << choice;
            if (hitNow == goal) {
                best = found == 0 ? takenNow : best;
                found++;
                return false;
            }
            begin(depth + 1, hitNow, barred[depth] | barredBy[choice], takenNow);
            return true;
        }

        private void begin(int depth, long hitNow, long barredNow, long takenNow) {
            int thing = World.lowest(~hitNow);
            if (depth < 0 || depth > World.MOST || thing < 0 || thing >= World.MOST) {
                return;
            }
            hit[depth] = hitNow;
            barred[depth] = barredNow;
            taken[depth] = takenNow;
            open[depth] = choices[thing] & ~barredNow;
        }

        long firstFound() {
            if (found > 0) {
                return best;
            }
            return spent ? SPENT : NONE;
        }

        int manyFound() {
            return spent ? SPENT : found;
        }
    }

    /** Ways from point to point: how far, round about, and how many. */
    private static final class Ways {
        private static final int LONGEST_WALK = 8;
        private static final long MODULUS = 1000000007L;
        private static final int NODES = 2 * World.MOST;
        private static final int NO_RING = 1000;

        private final long[] counts = new long[World.MOST];
        private final long[] halfway = new long[World.MOST];
        private final long[] fresh = new long[World.MOST];
        private final int[] steps = new int[NODES];
        private final int[] cameFrom = new int[NODES];
        private final int[] queue = new int[NODES];
        private int filled;

        int closedWalks(World w, int k) {
            long sum = 0;
            for (int p = 0; p < w.points; p++) {
                sum += walksFrom(w, p, k);
            }
            return (int) (sum % MODULUS);
        }

        /** A walk that comes back is one of half the steps and one of the others, to the same point. */
        private long walksFrom(World w, int start, int k) {
            for (int p = 0; p < World.MOST; p++) {
                counts[p] = p == start ? 1 : 0;
            }
            for (int step = 0; step < k / 2; step++) {
                walkOn(w);
            }
            System.arraycopy(counts, 0, halfway, 0, World.MOST);
            if (k % 2 == 1) {
                walkOn(w);
            }
            long sum = 0;
            for (int p = 0; p < World.MOST; p++) {
                sum += halfway[p] * counts[p];
            }
            return sum;
        }

        private void walkOn(World w) {
            for (int p = 0; p < w.points && p < World.MOST; p++) {
                long rest = w.nearAt(p);
                long sum = 0;
                for (int turn = 0; turn < World.MOST && rest != 0; turn++) {
                    int q = Long.numberOfTrailingZeros(rest);
                    sum += q < World.MOST ? counts[q] : 0;
                    rest &= rest - 1;
                }
                fresh[p] = sum;
            }
            System.arraycopy(fresh, 0, counts, 0, Math.min(w.points, World.MOST));
        }

        private static long nearToAny(World w, long set) {
            long near = 0;
            for (int p = 0; p < w.points; p++) {
                if (World.has(set, p)) {
                    near |= w.nearAt(p);
                }
            }
            return near;
        }

        static int between(World w, int one, int other) {
            long seen = 1L << one;
            for (int far = 0; far <= 2 * World.MOST; far += 2) {
                if (World.has(seen, other)) {
                    return far;
                }
                long wider = seen | nearToAny(w, seen);
                if (wider == seen) {
                    return NONE;
                }
                seen = wider;
            }
            return NONE;
        }

        static int greatestBetween(World w) {
            int widest = w.points == 0 ? NONE : 0;
            for (int p = 0; p < w.points; p++) {
                long seen = 1L << p;
                for (int far = 2; far <= 2 * World.MOST; far += 2) {
                    long wider = seen | nearToAny(w, seen);
                    if (wider == seen) {
                        break;
                    }
                    seen = wider;
                    widest = Math.max(widest, far);
                }
            }
            return widest;
        }

        static int pieces(World w) {
            long left = w.all();
            int many = 0;
            for (int turn = 0; turn < World.MOST && left != 0; turn++) {
                left &= ~pieceOf(w, left & -left);
                many++;
            }
            return many;
        }

        private static long pieceOf(World w, long start) {
            long seen = start;
            for (int turn = 0; turn < World.MOST; turn++) {
                long wider = seen | nearToAny(w, seen);
                if (wider == seen) {
                    break;
                }
                seen = wider;
            }
            return seen;
        }

        int shortestRing(World w) {
            int least = NO_RING;
            for (int p = 0; p < w.points && p < World.MOST; p++) {
                least = ringFrom(w, p, least);
            }
            return least == NO_RING ? NONE : least;
        }

        /** Nodes are the points, and behind them the lines. */
        private int ringFrom(World w, int start, int least) {
            Arrays.fill(steps, NONE);
            queue[0] = start;
            cameFrom[start] = NONE;
            steps[start] = 0;
            filled = 1;
            int best = least;
            // A ring that closes beside a node goes out to it and back: it is no shorter than that.
            for (int next = 0; next < filled && next < NODES && 2 * steps[queue[next]] + 2 < best; next++) {
                int node = queue[next];
                boolean isPoint = node < World.MOST;
                long rest = isPoint ? w.throughAt(node) : w.setAt(node - World.MOST);
                for (int turn = 0; turn < World.MOST && rest != 0; turn++) {
                    int to = Long.numberOfTrailingZeros(rest) + (isPoint ? World.MOST : 0);
                    rest &= rest - 1;
                    if (to < NODES && to != cameFrom[node]) {
                        best = Math.min(best, reach(to, node));
                    }
                }
            }
            return best;
        }

        /** How long the ring is that closes when a node is reached from another; NO_RING when it is new. */
        private int reach(int to, int from) {
            if (steps[to] != NONE) {
                return steps[from] + steps[to] + 1;
            }
            if (filled < NODES) {
                steps[to] = steps[from] + 1;
                cameFrom[to] = from;
                queue[filled] = to;
                filled++;
            }
            return NO_RING;
        }
    }

    /** Ranks over small fields, and the code of the sets that lines meet in even numbers. */
    private static final class Ranks {
        private static final int SIDE = World.MOST;
        private static final int MOST_FOR_WORDS = 16;

        private final int[] table = new int[SIDE * SIDE];
        /** Rows whose first point is told by their place; no other row has that point. */
        private final long[] rows = new long[SIDE];
        private final long[] basis = new long[MOST_FOR_WORDS];

        int rankOver(World w, int p) {
            if (p == 2) {
                return reduce(w);
            }
            for (int i = 0; i < SIDE; i++) {
                for (int j = 0; j < SIDE; j++) {
                    table[i * SIDE + j] = World.has(w.setAt(i), j) ? 1 : 0;
                }
            }
            int rank = 0;
            for (int column = 0; column < w.points && column < SIDE && rank < SIDE; column++) {
                if (bringUp(w, rank, column)) {
                    clearBelow(w, rank, column, p);
                    rank++;
                }
            }
            return rank;
        }

        /** Changes a row for one behind it that isn't 0 in a column; false: there is none. */
        private boolean bringUp(World w, int row, int column) {
            for (int i = row; i < w.lines && i < SIDE; i++) {
                if (table[i * SIDE + column] != 0) {
                    for (int j = 0; j < SIDE; j++) {
                        int kept = table[i * SIDE + j];
                        table[i * SIDE + j] = table[row * SIDE + j];
                        table[row * SIDE + j] = kept;
                    }
                    return true;
                }
            }
            return false;
        }

        private void clearBelow(World w, int row, int column, int p) {
            int pivot = table[row * SIDE + column];
            for (int i = row + 1; i < w.lines && i < SIDE; i++) {
                int factor = table[i * SIDE + column];
                if (factor != 0) {
                    // Both rows are stretched, so that nothing need be divided.
                    for (int j = column; j < SIDE; j++) {
                        int mixed = pivot * table[i * SIDE + j] - factor * table[row * SIDE + j];
                        table[i * SIDE + j] = Math.floorMod(mixed, p);
                    }
                }
            }
        }

        /** The lines' rows over the field of two: how many are left. */
        private int reduce(World w) {
            Arrays.fill(rows, 0L);
            int rank = 0;
            for (int i = 0; i < w.lines; i++) {
                long row = w.setAt(i);
                for (int c = 0; c < SIDE; c++) {
                    row = World.has(row, c) ? row ^ rows[c] : row;
                }
                int lead = World.lowest(row);
                if (lead >= 0 && lead < SIDE) {
                    for (int c = 0; c < SIDE; c++) {
                        rows[c] = World.has(rows[c], lead) ? rows[c] ^ row : rows[c];
                    }
                    rows[lead] = row;
                    rank++;
                }
            }
            return rank;
        }

        int dimension(World w) {
            return w.points - reduce(w);
        }

        int leastWord(World w) {
            int dimension = dimension(w);
            if (dimension > MOST_FOR_WORDS) {
                return SPENT;
            }
            fillBasis(w);
            int least = NONE;
            long word = 0;
            // The words come so that each is unlike the one before by one of the basis.
            for (int turn = 1; turn < 1 << dimension; turn++) {
                int change = Integer.numberOfTrailingZeros(turn);
                word ^= change < MOST_FOR_WORDS ? basis[change] : 0;
                int many = Long.bitCount(word);
                least = least == NONE ? many : Math.min(least, many);
            }
            return least;
        }

        /** For each point that leads no row: the word that has it and no other such point. */
        private void fillBasis(World w) {
            int many = 0;
            for (int p = 0; p < w.points && p < SIDE && many < MOST_FOR_WORDS; p++) {
                if (rows[p] == 0) {
                    long word = 1L << p;
                    for (int lead = 0; lead < SIDE; lead++) {
                        word |= World.has(rows[lead], p) ? 1L << lead : 0;
                    }
                    basis[many] = word;
                    many++;
                }
            }
        }
    }

    /**
     * Carries one world's points to another's. The points of both are parted into kinds, and the lines,
     * till all points of a kind are on as many lines of each kind and all lines have as many points of
     * each. How many is told in full, never by a sum that could be the same by chance.
     */
    private static final class Turner {
        private static final int MOST = 16;
        /** Points have a row of kinds for each one that was told apart, lines the row behind those. */
        private static final int LINE_ROW = MOST;
        private static final int WIDE = World.MOST;

        private int points;
        private int lines;
        private final long[] sets = new long[WIDE];
        private final long[] otherSets = new long[WIDE];
        private final long[] throughs = new long[MOST];
        private final long[] otherThroughs = new long[MOST];
        /** Of each row: how many kinds there are, and the sets of what is of a kind in either world. */
        private final int[] kinds = new int[LINE_ROW + 1];
        private final long[] ones = new long[(LINE_ROW + 1) * WIDE];
        private final long[] others = new long[(LINE_ROW + 1) * WIDE];
        private final long[] marks = new long[WIDE];
        private final long[] otherMarks = new long[WIDE];
        private final int[] carried = new int[MOST];
        /** Points that the turnings found so far carry to one another have the same class. */
        private final int[] classes = new int[MOST];
        /** Of the points told apart one by one: to what turnings that keep those before carry each. */
        private final long[] reaches = new long[MOST];
        /** And to what each is carried just now. */
        private final int[] goals = new int[MOST];

        long countTurnings(World w) {
            load(w, w);
            int depth = tellAllApart();
            for (int p = 0; p < MOST; p++) {
                classes[p] = p;
            }
            long many = 1;
            // Turnings that keep more points come first: they carry on in those that keep fewer.
            for (int d = depth - 1; d >= 0 && d < MOST; d--) {
                many *= widenReach(d);
            }
            return many;
        }

        /** To be asked when the turnings of the first world are counted. */
        boolean areAlike(World one, World other) {
            if (one.points != other.points || one.lines != other.lines) {
                return false;
            }
            load(one, other);
            return carryOn(this, 0);
        }

        private void load(World one, World other) {
            points = Math.min(one.points, MOST);
            lines = one.lines;
            for (int i = 0; i < WIDE; i++) {
                sets[i] = one.setAt(i);
                otherSets[i] = other.setAt(i);
            }
            for (int p = 0; p < MOST; p++) {
                throughs[p] = one.throughAt(p);
                otherThroughs[p] = other.throughAt(p);
            }
            becomeOneKind(0, points);
        }

        /** The points to which what was found carries a point. */
        long classOf(int point) {
            if (point < 0 || point >= MOST) {
                return 0;
            }
            long set = 0;
            for (int p = 0; p < points && p < MOST; p++) {
                set |= classes[p] == classes[point] ? 1L << p : 0;
            }
            return set;
        }

        /** Points are told apart one by one, till each is a kind of its own: how many had to be. */
        private int tellAllApart() {
            int depth = 0;
            for (int turn = 0; turn + 1 < MOST; turn++) {
                settleKinds(depth);
                int kind = undecided(depth);
                if (kind == NONE) {
                    break;
                }
                int point = World.lowest(ones[depth * WIDE + kind]);
                tellApart(depth, kind, point, point);
                reaches[depth] = 1L << point;
                depth++;
            }
            return depth;
        }

        /** To how many points a point is carried by turnings that keep those told apart before it. */
        private int widenReach(int depth) {
            int kind = undecided(depth);
            if (kind == NONE) {
                return 1;
            }
            long open = ones[depth * WIDE + kind];
            int point = World.lowest(open);
            for (int to = point + 1; to < points && to < MOST; to++) {
                if (World.has(open, to) && !World.has(classOf(point), to)) {
                    tellApart(depth, kind, point, to);
                    if (carryOn(this, depth + 1)) {
                        mergeClasses();
                    } else {
                        // What could be carried to one of these could be carried to all.
                        open &= ~classOf(to);
                    }
                }
            }
            reaches[depth] = classOf(point);
            return Long.bitCount(reaches[depth]);
        }

        private void mergeClasses() {
            for (int p = 0; p < points && p < MOST; p++) {
                int to = carried[p];
                if (to >= 0 && to < MOST && classes[to] != classes[p]) {
                    int given = classes[to];
                    for (int q = 0; q < MOST; q++) {
                        classes[q] = classes[q] == given ? classes[p] : classes[q];
                    }
                }
            }
        }

        /** Each level has a kind more at least, so that there are no more levels than points. */
        private static boolean carryOn(Turner t, int depth) {
            if (depth < 0 || depth >= MOST || !t.settleKinds(depth)) {
                return false;
            }
            int kind = t.undecided(depth);
            if (kind == NONE) {
                t.carryKinds(depth);
                return true;
            }
            int point = World.lowest(t.ones[depth * WIDE + kind]);
            long open = t.others[depth * WIDE + kind];
            for (int to = 0; to < t.points && to < MOST; to++) {
                if (World.has(open, to) && t.isWorthTrying(depth, point, to, open)) {
                    t.tellApart(depth, kind, point, to);
                    if (carryOn(t, depth + 1)) {
                        return true;
                    }
                }
            }
            return false;
        }

        /**
         * A way with a turning of the first world ahead of it is a way, too. Of all these just one carries
         * each point told apart below the others of its reach: no other way need be tried.
         */
        private boolean isWorthTrying(int depth, int point, int to, long open) {
            long above = open & ~World.first(to + 1);
            if (Long.bitCount(above) < Long.bitCount(reaches[depth]) - 1) {
                return false;
            }
            for (int d = 0; d < depth && d < MOST; d++) {
                if (World.has(reaches[d], point) && to < goals[d]) {
                    return false;
                }
            }
            return true;
        }

        /** One point of a kind is a kind of its own on the next level, and is carried to another. */
        private void tellApart(int depth, int kind, int point, int to) {
            if (depth < 0 || depth + 1 >= MOST) {
                return;
            }
            int next = depth + 1;
            System.arraycopy(ones, depth * WIDE, ones, next * WIDE, WIDE);
            System.arraycopy(others, depth * WIDE, others, next * WIDE, WIDE);
            kinds[next] = kinds[depth];
            split(next, kind, 1L << point, 1L << to);
            goals[depth] = to;
        }

        private void becomeOneKind(int row, int many) {
            kinds[row] = many > 0 ? 1 : 0;
            ones[row * WIDE] = World.first(many);
            others[row * WIDE] = World.first(many);
        }

        /** Part of a kind stays what it is, the rest is a kind more. */
        private void split(int row, int kind, long part, long otherPart) {
            int at = row * WIDE + kind;
            if (part == ones[at] || kinds[row] >= WIDE) {
                return;
            }
            int more = row * WIDE + kinds[row];
            ones[more] = ones[at] & ~part;
            others[more] = others[at] & ~otherPart;
            ones[at] = part;
            others[at] = otherPart;
            kinds[row]++;
        }

        /** False: no way carries each point to one of its kind. */
        private boolean settleKinds(int depth) {
            // Each round but the last brings a kind, and there are no more kinds than points.
            for (int round = 0; round <= MOST; round++) {
                int before = kinds[depth];
                becomeOneKind(LINE_ROW, lines);
                markLines(depth);
                if (!partByMarks(LINE_ROW)) {
                    return false;
                }
                markPoints();
                if (!partByMarks(depth)) {
                    return false;
                }
                if (kinds[depth] == before) {
                    return true;
                }
            }
            return true;
        }

        private void markLines(int depth) {
            for (int i = 0; i < lines && i < WIDE; i++) {
                marks[i] = markOf(depth, ones, sets[i]);
                otherMarks[i] = markOf(depth, others, otherSets[i]);
            }
        }

        private void markPoints() {
            for (int p = 0; p < points && p < MOST; p++) {
                marks[p] = markOf(LINE_ROW, ones, throughs[p]);
                otherMarks[p] = markOf(LINE_ROW, others, otherThroughs[p]);
            }
        }

        /** Each kind has as many bits as it has members, and the first so many are set as are in a set. */
        private long markOf(int row, long[] members, long set) {
            long mark = 0;
            int place = 0;
            for (int kind = 0; kind < kinds[row] && kind < WIDE; kind++) {
                long of = members[row * WIDE + kind];
                mark |= World.first(Long.bitCount(of & set)) << place;
                place += Long.bitCount(of);
            }
            return mark;
        }

        /** False: a kind of one world has not as many of each mark as that of the other. */
        private boolean partByMarks(int row) {
            // The rest of a kind comes behind all others, and is parted in its turn.
            for (int kind = 0; kind < kinds[row] && kind < WIDE; kind++) {
                int at = row * WIDE + kind;
                int first = World.lowest(ones[at]);
                if (first < 0 || first >= WIDE) {
                    return false;
                }
                long part = markedSo(ones[at], marks, marks[first]);
                long otherPart = markedSo(others[at], otherMarks, marks[first]);
                if (Long.bitCount(part) != Long.bitCount(otherPart)) {
                    return false;
                }
                split(row, kind, part, otherPart);
            }
            return true;
        }

        private static long markedSo(long among, long[] rowMarks, long mark) {
            long set = 0;
            long rest = among;
            for (int turn = 0; turn < WIDE && rest != 0; turn++) {
                int i = Long.numberOfTrailingZeros(rest);
                rest &= rest - 1;
                if (i < rowMarks.length && rowMarks[i] == mark) {
                    set |= 1L << i;
                }
            }
            return set;
        }

        /** The smallest kind of two points or more. */
        private int undecided(int depth) {
            int smallest = NONE;
            int fewest = MOST + 1;
            for (int kind = 0; kind < kinds[depth] && kind < WIDE; kind++) {
                int many = Long.bitCount(ones[depth * WIDE + kind]);
                if (many > 1 && many < fewest) {
                    fewest = many;
                    smallest = kind;
                }
            }
            return smallest;
        }

        /**
         * To be called when each point is a kind of its own: marks of lines tell all their points then, so
         * that lines are carried to those of their kind.
         */
        private void carryKinds(int depth) {
            for (int kind = 0; kind < kinds[depth] && kind < WIDE; kind++) {
                int point = World.lowest(ones[depth * WIDE + kind]);
                if (point >= 0 && point < MOST) {
                    carried[point] = World.lowest(others[depth * WIDE + kind]);
                }
            }
        }
    }

    /** The worlds before the latest acts, and behind those that were undone. */
    private static final class History {
        private static final int MOST = 20;

        private final World[] before = new World[MOST];
        private final World[] after = new World[MOST];
        private int behind;
        private int ahead;

        void forget() {
            behind = 0;
            ahead = 0;
        }

        /** To be called with the world ahead of each act. */
        void keep(World w) {
            if (behind >= MOST) {
                World oldest = before[0];
                for (int i = 0; i + 1 < MOST; i++) {
                    before[i] = before[i + 1];
                }
                before[MOST - 1] = oldest;
                behind = MOST - 1;
            }
            store(before, behind, w);
            behind++;
            ahead = 0;
        }

        boolean goBack(World w) {
            if (behind <= 0) {
                return false;
            }
            store(after, ahead, w);
            ahead++;
            behind--;
            fetch(before, behind, w);
            return true;
        }

        boolean goOn(World w) {
            if (ahead <= 0) {
                return false;
            }
            store(before, behind, w);
            behind++;
            ahead--;
            fetch(after, ahead, w);
            return true;
        }

        private static void store(World[] row, int at, World w) {
            if (at < 0 || at >= row.length) {
                return;
            }
            World place = row[at];
            if (place == null) {
                place = new World();
                row[at] = place;
            }
            place.copy(w);
        }

        private static void fetch(World[] row, int at, World w) {
            if (at < 0 || at >= row.length) {
                return;
            }
            World place = row[at];
            if (place != null) {
                w.copy(place);
            }
        }
    }

    /** A row of numbers of one sort. */
    private static final class Tray {
        private static final int MOST = 40;

        private int sort;
        private int size;
        private final long[] cells = new long[MOST];

        void becomeEmpty(int ofSort, int many) {
            sort = ofSort;
            size = Math.min(many, MOST);
            Arrays.fill(cells, 0L);
        }

        long cellAt(int place) {
            return place >= 0 && place < size && place < MOST ? cells[place] : 0;
        }

        void put(int place, long v) {
            if (place >= 0 && place < size && place < MOST) {
                cells[place] = cut(v);
            }
        }

        private long cut(long v) {
            switch (sort) {
                case 0:
                    return (byte) v;
                case 1:
                    return (short) v;
                case 2:
                    return (int) v;
                default:
                    return v;
            }
        }
    }
}
