/** A cache of range answers over a slow store of rows on a grid; ../shared/DOC.md says what each call does. */
public final class RangeAnswers {
    public static final int NONE = -1, BAD = -2, STATE = -3, FULL = -4;
    public static final long NO = Long.MIN_VALUE;
    public static final long OVER = Long.MIN_VALUE + 1;

    private static final int ABSENT = -5, NOTHING = -11, BEYOND = -13, BELOW = -14;
    private static final int LEAST_ROOM = 1, MOST_ROOM = 99;

    private final State now = new State();
    private final State image = new State();
    private boolean hasImage = false;
    /** What is done again is done here, over the same store, so that nothing of it stays. */
    private final Cache trial = new Cache(now.store);
    private final Settings fresh = new Settings();
    private final Tape tape = new Tape();
    private final Queries queries = new Queries(tape, now.store);
    private final Boxes loaded = new Boxes(Cache.MOST_REGIONS);
    private final long[] answers = new long[Queries.MOST];
    private int answerCount = 0;
    private final StringBuilder page = new StringBuilder();
    private final Boxes pieces = new Boxes(Cache.CAPACITY);
    private final int[] pieceNumbers = new int[Cache.CAPACITY];
    private final Lists lists = new Lists();

    public RangeAnswers() {
    }

    // ---- the store

    public int put(int r, int x, int y, long worth) {
        if (!Store.isRow(r)) return NONE;
        if (!Box.isPlace(x, y) || worth == NO || worth == OVER) return BAD;
        now.watches.remember(now.store);
        if (now.store.isIn(r)) {
            now.cache.write(now.store.bringOut(r));
        }
        now.store.bringIn(r, x, y, worth);
        now.cache.write(Box.of(x, x, y, y));
        return afterWrites();
    }

    public int take(int r) {
        if (!Store.isRow(r)) return NONE;
        if (!now.store.isIn(r)) return STATE;
        now.watches.remember(now.store);
        now.cache.write(now.store.bringOut(r));
        return afterWrites();
    }

    private int afterWrites() {
        now.cache.trim();
        now.watches.compare(now.store);
        return now.cache.count;
    }

    public int row(int r, int what) {
        if (!Store.isRow(r) || what < 0 || what > 1) return NONE;
        if (!now.store.isIn(r)) return STATE;
        return what == 0 ? now.store.xs[r] : now.store.ys[r];
    }

    public long worth(int r) {
        return now.store.isIn(r) ? now.store.worths[r] : NO;
    }

    // ---- texts

    public int feed(int letter) {
        if (letter < 1 || letter > 127) return BAD;
        return tape.append(letter) ? tape.length : FULL;
    }

    public int clear() {
        int had = tape.length;
        tape.length = 0;
        return had;
    }

    public int settings() {
        tape.begin();
        fresh.copyFrom(now.cache.settings);
        int parts = fresh.readParts(tape);
        if (tape.isSound()) {
            now.cache.settings.copyFrom(fresh);
            now.cache.trim();
        }
        return tape.end(parts);
    }

    public int setting(int what) {
        return now.cache.settings.of(what);
    }

    public int run() {
        tape.begin();
        queries.readParts();
        if (tape.isSound()) {
            answerCount = queries.count;
            for (int i = 0; i < queries.count && i < answers.length; i++) {
                answers[i] = done(queries.measures[i], queries.boxes[i], queries.rows[i]);
            }
        }
        return tape.end(queries.count);
    }

    /** The FIND is of those rows of the box that stand in the set of rows; what is asked goes by the box alone. */
    private long done(int measure, int box, long rows) {
        now.cache.serve(box);
        now.found.gather(now.store, now.store.rowsIn(box) & rows);
        return now.found.measured(measure);
    }

    public long answer(int i) {
        return i >= 0 && i < answerCount && i < answers.length ? answers[i] : NO;
    }

    public int spell() {
        page.setLength(0);
        for (int i = 0; i < now.cache.count; i++) {
            if (i > 0) page.append(';');
            spellBox(now.cache.boxes[i]);
        }
        return page.length();
    }

    private void spellBox(int box) {
        page.append(Box.side(box, 0)).append('-').append(Box.side(box, 1)).append(',');
        page.append(Box.side(box, 2)).append('-').append(Box.side(box, 3));
    }

    public int load() {
        tape.begin();
        loaded.count = 0;
        boolean more = true;
        for (int part = 1; more && part <= Cache.MOST_REGIONS; part++) {
            loaded.add(tape.plainBox());
            more = tape.another(part < Cache.MOST_REGIONS);
        }
        return tape.end(tape.isSound() ? now.cache.admit(loaded) : 0);
    }

    public int explain(int x0, int x1, int y0, int y1) {
        if (!Box.isBox(x0, x1, y0, y1)) return BAD;
        int box = Box.of(x0, x1, y0, y1);
        page.setLength(0);
        for (int i = 0; i < now.cache.count; i++) {
            if (Box.meet(now.cache.boxes[i], box)) {
                page.append("have ").append(now.cache.numbers[i]).append(' ');
                spellBox(Box.common(now.cache.boxes[i], box));
                page.append(';');
            }
        }
        int pay = explainMissing(box);
        page.append("pay ").append(pay);
        return page.length();
    }

    /** Answers the costs together. */
    private int explainMissing(int box) {
        Boxes missing = now.cache.missingOf(box);
        int pay = 0;
        for (int i = 0; i < missing.count; i++) {
            int cost = now.cache.costOf(missing.at(i));
            page.append("ask ");
            spellBox(missing.at(i));
            page.append(' ').append(cost).append(';');
            pay += cost;
        }
        return pay;
    }

    public int paper(int i) {
        return i >= 0 && i < page.length() ? page.charAt(i) : NONE;
    }

    // ---- queries

    public long query(int measure, int x0, int x1, int y0, int y1) {
        if (!Finding.isMeasure(measure) || !Box.isBox(x0, x1, y0, y1)) return NO;
        return done(measure, Box.of(x0, x1, y0, y1), Store.ALL);
    }

    public int find(int i) {
        if (i == -1) return now.found.count;
        return i >= 0 && i < now.found.count ? now.found.numbers[i] : NONE;
    }

    public int probe(int x0, int x1, int y0, int y1) {
        if (!Box.isBox(x0, x1, y0, y1)) return BAD;
        int box = Box.of(x0, x1, y0, y1);
        pieces.count = 0;
        for (int i = 0; i < now.cache.count; i++) {
            if (Box.meet(now.cache.boxes[i], box)) {
                addPiece(Box.common(now.cache.boxes[i], box), now.cache.numbers[i]);
            }
        }
        Boxes missing = now.cache.missingOf(box);
        for (int i = 0; i < missing.count; i++) {
            addPiece(missing.at(i), ABSENT);
        }
        return pieces.count;
    }

    private void addPiece(int box, int number) {
        if (pieces.count < pieceNumbers.length) pieceNumbers[pieces.count] = number;
        pieces.add(box);
    }

    public int piece(int i, int what) {
        if (i < 0 || i >= pieces.count || what < 0 || what > 4) return NONE;
        return what < 4 ? Box.side(pieces.at(i), what) : pieceNumbers[i];
    }

    // ---- the cache

    public int region(int i, int what) {
        Cache cache = now.cache;
        if (i < 0 || i >= cache.count || what < 0 || what > 11) return NONE;
        if (what < 4) return Box.side(cache.boxes[i], what);
        if (what == 4) return cache.numbers[i];
        if (what == 5) return cache.hits[i];
        if (what < 10) return cache.hots[i] == Box.VOID ? ABSENT : Box.side(cache.hots[i], what - 6);
        return what == 10 ? cache.sizeOf(cache.boxes[i]) : cache.costOf(cache.boxes[i]);
    }

    public long weight(int i) {
        return i >= 0 && i < now.cache.count ? now.cache.weights[i] : NO;
    }

    public long told(int what) {
        switch (what) {
            case 0: return now.cache.count;
            case 1: return now.cache.sizes();
            case 2: return now.cache.asks;
            case 3: return now.cache.paid;
            case 4: return now.cache.evicted;
            case 5: return now.cache.shrunk;
            case 6: return now.cache.merged;
            case 7: return now.cache.touched;
            case 8: return now.cache.level;
            case 9: return now.store.count;
            case 10: return page.length();
            default: return NO;
        }
    }

    public int flush() {
        int gone = now.cache.count;
        now.cache.count = 0;
        return gone;
    }

    public int keep(int n) {
        return n < 0 ? BAD : now.cache.bestSet(n);
    }

    // ---- traces, watches

    public int trace(int x0, int x1, int y0, int y1) {
        if (x0 == -1) {
            now.trace.count = 0;
            return 0;
        }
        if (!Box.isBox(x0, x1, y0, y1)) return BAD;
        return now.trace.add(Box.of(x0, x1, y0, y1)) ? now.trace.count : FULL;
    }

    public int again(int n, int what) {
        if (what < 0 || what > 5) return NONE;
        if (n < LEAST_ROOM || n > MOST_ROOM) return BAD;
        doAgain(n);
        switch (what) {
            case 0: return trial.paid;
            case 1: return trial.asks;
            case 2: return trial.evicted;
            case 3: return trial.shrunk;
            case 4: return trial.merged;
            default: return trial.count;
        }
    }

    private void doAgain(int room) {
        trial.forgetAll();
        trial.settings.copyFrom(now.cache.settings);
        trial.settings.become(Settings.ROOM, room);
        for (int i = 0; i < now.trace.count; i++) {
            trial.serve(now.trace.at(i));
        }
    }

    public int least(int paid) {
        for (int n = LEAST_ROOM; n <= MOST_ROOM; n++) {
            doAgain(n);
            if (trial.paid <= paid) return n;
        }
        return ABSENT;
    }

    public int watch(int measure, int x0, int x1, int y0, int y1) {
        if (!Finding.isMeasure(measure)) return NONE;
        if (!Box.isBox(x0, x1, y0, y1)) return BAD;
        return now.watches.add(measure, Box.of(x0, x1, y0, y1)) ? now.watches.count - 1 : FULL;
    }

    public long value(int watch) {
        return now.watches.has(watch) ? now.watches.valueOf(watch, now.store) : NO;
    }

    public int changes(int watch) {
        return now.watches.has(watch) ? now.watches.changes[watch] : NONE;
    }

    // ---- lists, the image

    public int list(int list, int n) {
        if (!Lists.isList(list)) return NONE;
        if (n > Lists.LONGEST) return BAD;
        if (n < 0) return BELOW;
        lists.make(list, n);
        return 1;
    }

    public int set(int list, int i, long v) {
        int refusal = lists.refusal(list);
        if (refusal != 0) return refusal;
        if (!lists.hasPlace(list, i)) return BEYOND;
        lists.rows[list][i] = v;
        return 1;
    }

    public long get(int list, int i) {
        return lists.hasPlace(list, i) ? lists.rows[list][i] : NO;
    }

    public int move(int list, int i, int other, int j, int n) {
        if (!Lists.isList(list) || !Lists.isList(other)) return NONE;
        if (lists.refusal(list) != 0 || lists.refusal(other) != 0) return NOTHING;
        if (!lists.hasSpan(list, i, n) || !lists.hasSpan(other, j, n)) return BEYOND;
        System.arraycopy(lists.rows[list], i, lists.rows[other], j, n);
        return n;
    }

    public int lay(int list, int i) {
        int refusal = lists.refusal(list);
        return refusal != 0 ? refusal : lists.layFrom(list, i, now.found);
    }

    public int judge(int list, int i) {
        int refusal = lists.refusal(list);
        return refusal != 0 ? refusal : lists.judgeFrom(list, i, now.found);
    }

    public int image() {
        image.copyFrom(now);
        hasImage = true;
        return now.cache.count;
    }

    public int undo() {
        if (!hasImage) return STATE;
        now.copyFrom(image);
        return now.cache.count;
    }

    /** A BOX as one number, so that no objects are made of them: five bits each for x0, x1, y0, y1. */
    private static final class Box {
        static final int VOID = -1;
        static final int LINES = 32;
        private static final int BITS = 5, ONE_SIDE = 31, X_SIDES = 1023;

        static boolean isPlace(int x, int y) {
            return x >= 0 && x < LINES && y >= 0 && y < LINES;
        }

        static boolean isBox(int x0, int x1, int y0, int y1) {
            return isPlace(x0, y0) && isPlace(x1, y1) && x0 <= x1 && y0 <= y1;
        }

        static int of(int x0, int x1, int y0, int y1) {
            return x0 | x1 << BITS | y0 << 2 * BITS | y1 << 3 * BITS;
        }

        /** What 0 x0, 1 x1, 2 y0, 3 y1. */
        static int side(int box, int what) {
            return box >> BITS * what & ONE_SIDE;
        }

        static int x0(int box) {
            return box & ONE_SIDE;
        }

        static int x1(int box) {
            return box >> BITS & ONE_SIDE;
        }

        static int y0(int box) {
            return box >> 2 * BITS & ONE_SIDE;
        }

        static int y1(int box) {
            return box >> 3 * BITS & ONE_SIDE;
        }

        static int area(int box) {
            return (x1(box) - x0(box) + 1) * (y1(box) - y0(box) + 1);
        }

        static boolean meet(int a, int b) {
            return a != VOID && b != VOID
                && x0(a) <= x1(b) && x0(b) <= x1(a) && y0(a) <= y1(b) && y0(b) <= y1(a);
        }

        /** VOID, if they don't meet. */
        static int common(int a, int b) {
            if (!meet(a, b)) return VOID;
            return of(Math.max(x0(a), x0(b)), Math.min(x1(a), x1(b)),
                Math.max(y0(a), y0(b)), Math.min(y1(a), y1(b)));
        }

        /** That of one, if the other is VOID. */
        static int around(int a, int b) {
            if (a == VOID) return b;
            if (b == VOID) return a;
            return of(Math.min(x0(a), x0(b)), Math.max(x1(a), x1(b)),
                Math.min(y0(a), y0(b)), Math.max(y1(a), y1(b)));
        }

        /** Of two that don't meet: are they just one BOX together? */
        static boolean join(int a, int b) {
            boolean beside = x1(a) + 1 == x0(b) || x1(b) + 1 == x0(a);
            boolean above = y1(a) + 1 == y0(b) || y1(b) + 1 == y0(a);
            boolean sameColumns = (a & X_SIDES) == (b & X_SIDES);
            boolean sameLines = a >> 2 * BITS == b >> 2 * BITS;
            return beside && sameLines || above && sameColumns;
        }
    }

    /** A row of BOXES with a room that it keeps to. */
    private static final class Boxes {
        private final int[] boxes;
        int count = 0;

        Boxes(int room) {
            boxes = new int[Math.max(0, room)];
        }

        /** False, if there is no room for it. */
        boolean add(int box) {
            if (count < 0 || count >= boxes.length) return false;
            boxes[count] = box;
            count++;
            return true;
        }

        int at(int i) {
            return i >= 0 && i < count && i < boxes.length ? boxes[i] : Box.VOID;
        }

        void copyFrom(Boxes other) {
            count = 0;
            for (int i = 0; i < other.count; i++) {
                add(other.at(i));
            }
        }

        /** Adds the REST of a box by another one. */
        void addRest(int box, int other) {
            if (!Box.meet(box, other)) {
                add(box);
                return;
            }
            int x0 = Box.x0(box), x1 = Box.x1(box), y0 = Box.y0(box), y1 = Box.y1(box);
            int low = Math.max(y0, Box.y0(other)), high = Math.min(y1, Box.y1(other));
            if (y0 < low) add(Box.of(x0, x1, y0, low - 1));
            if (y1 > high) add(Box.of(x0, x1, high + 1, y1));
            if (x0 < Box.x0(other)) add(Box.of(x0, Box.x0(other) - 1, low, high));
            if (x1 > Box.x1(other)) add(Box.of(Box.x1(other) + 1, x1, low, high));
        }

        /** Becomes the REST of each of the source's boxes, in its place. */
        void becomeRest(Boxes source, int other) {
            count = 0;
            for (int i = 0; i < source.count; i++) {
                addRest(source.at(i), other);
            }
        }
    }

    /** The ROWS; a set of rows is a long with a bit for each number. */
    private static final class Store {
        static final int ROWS = 60;
        static final long ALL = -1L;

        final int[] xs = new int[ROWS];
        final int[] ys = new int[ROWS];
        final long[] worths = new long[ROWS];
        /** The numbers of the rows that are IN, as they are told. */
        final int[] order = new int[ROWS];
        int count = 0;
        /** At i the rows that are IN with an x (a y) below i: the rows of a box come of four of these. */
        private final long[] leftOf = new long[Box.LINES + 1];
        private final long[] below = new long[Box.LINES + 1];

        static boolean isRow(int r) {
            return r >= 0 && r < ROWS;
        }

        boolean isIn(int r) {
            return isRow(r) && (leftOf[Box.LINES] >>> r & 1L) != 0;
        }

        long rowsIn(int box) {
            return leftOf[Box.x1(box) + 1] & ~leftOf[Box.x0(box)] & below[Box.y1(box) + 1] & ~below[Box.y0(box)];
        }

        /** Of a row that is OUT, at a place. */
        void bringIn(int r, int x, int y, long worth) {
            if (!isRow(r) || isIn(r) || count >= ROWS || !Box.isPlace(x, y)) return;
            xs[r] = x;
            ys[r] = y;
            worths[r] = worth;
            flip(r);
            int i = count;
            for (; i > 0 && rank(order[i - 1]) > rank(r); i--) {
                order[i] = order[i - 1];
            }
            order[i] = r;
            count++;
        }

        /** Answers the box of the place where the row was. */
        int bringOut(int r) {
            if (!isIn(r)) return Box.VOID;
            flip(r);
            int left = 0;
            for (int i = 0; i < count; i++) {
                if (order[i] != r) {
                    order[left] = order[i];
                    left++;
                }
            }
            count = left;
            return Box.of(xs[r], xs[r], ys[r], ys[r]);
        }

        private int rank(int r) {
            return isRow(r) ? (xs[r] * Box.LINES + ys[r]) * ROWS + r : 0;
        }

        private void flip(int r) {
            long bit = 1L << r;
            for (int i = xs[r] + 1; i < leftOf.length; i++) {
                leftOf[i] ^= bit;
            }
            for (int i = ys[r] + 1; i < below.length; i++) {
                below[i] ^= bit;
            }
        }

        /** The rows IN whose letter (0 w, 1 x, 2 y, 3 r) is less than (0), just (1) or greater than (2) the number. */
        long rowsWith(int letter, int compare, int number) {
            long rows = 0;
            for (int i = 0; i < count; i++) {
                int r = order[i];
                if (1 + Long.compare(read(r, letter), number) == compare) rows |= 1L << r;
            }
            return rows;
        }

        private long read(int r, int letter) {
            if (r < 0 || r >= ROWS) return 0;
            switch (letter) {
                case 0: return worths[r];
                case 1: return xs[r];
                case 2: return ys[r];
                default: return r;
            }
        }

        void copyFrom(Store other) {
            System.arraycopy(other.xs, 0, xs, 0, ROWS);
            System.arraycopy(other.ys, 0, ys, 0, ROWS);
            System.arraycopy(other.worths, 0, worths, 0, ROWS);
            System.arraycopy(other.order, 0, order, 0, ROWS);
            System.arraycopy(other.leftOf, 0, leftOf, 0, Box.LINES + 1);
            System.arraycopy(other.below, 0, below, 0, Box.LINES + 1);
            count = other.count;
        }
    }

    /** ROWS as they were when they were gathered, and the MEASURES of these. */
    private static final class Finding {
        private static final int COUNT = 0, SUM = 1, LEAST = 2, MOST = 3, MEAN = 4, SPAN = 5, KINDS = 6;

        final int[] numbers = new int[Store.ROWS];
        final long[] worths = new long[Store.ROWS];
        int count = 0;

        static boolean isMeasure(int measure) {
            return measure >= COUNT && measure <= KINDS;
        }

        void gather(Store store, long rows) {
            count = 0;
            for (int i = 0; i < store.count && i < Store.ROWS; i++) {
                int r = store.order[i];
                if (Store.isRow(r) && (rows >>> r & 1L) != 0) {
                    numbers[count] = r;
                    worths[count] = store.worths[r];
                    count++;
                }
            }
        }

        long measured(int measure) {
            if (count == 0 && measure >= LEAST && measure <= SPAN) return NO;
            switch (measure) {
                case COUNT: return count;
                case SUM: return sum();
                case LEAST: return leastWorth();
                case MOST: return mostWorth();
                case MEAN: return mean();
                case SPAN: return difference(mostWorth(), leastWorth());
                case KINDS: return kinds();
                default: return NO;
            }
        }

        /** OVER is told by a flag of its own, as a sum may well be the long that OVER is. */
        private boolean sumIsOver() {
            long sum = 0;
            for (int i = 0; i < count; i++) {
                long next = sum + worths[i];
                boolean hasWrapped = worths[i] >= 0 ? next < sum : next > sum;
                if (hasWrapped) return true;
                sum = next;
            }
            return false;
        }

        private long sum() {
            if (sumIsOver()) return OVER;
            long sum = 0;
            for (int i = 0; i < count; i++) {
                sum += worths[i];
            }
            return sum;
        }

        private long mean() {
            if (count == 0) return NO;
            return sumIsOver() ? OVER : Math.floorDiv(sum(), (long) count);
        }

        private long leastWorth() {
            long least = worths[0];
            for (int i = 1; i < count; i++) {
                least = Math.min(least, worths[i]);
            }
            return least;
        }

        private long mostWorth() {
            long most = worths[0];
            for (int i = 1; i < count; i++) {
                most = Math.max(most, worths[i]);
            }
            return most;
        }

        /** Of two longs, the first not below the second: only there a wrapped difference is below 0. */
        private static long difference(long most, long least) {
            return most - least < 0 ? OVER : most - least;
        }

        private int kinds() {
            int kinds = 0;
            for (int i = 0; i < count; i++) {
                boolean isNew = true;
                for (int j = 0; j < i && isNew; j++) {
                    isNew = worths[j] != worths[i];
                }
                if (isNew) kinds++;
            }
            return kinds;
        }

        void copyFrom(Finding other) {
            System.arraycopy(other.numbers, 0, numbers, 0, Store.ROWS);
            System.arraycopy(other.worths, 0, worths, 0, Store.ROWS);
            count = other.count;
        }
    }

    /** The SETTINGS, by the numbers that setting() knows them by. */
    private static final class Settings {
        static final int SETUP = 0, ROOM = 1, MOST = 2, WRITES = 3, MERGE = 4, SHRINK = 5, BIG = 6;
        static final int PATCH = 0, DROP = 1;
        private static final int HOW_MANY = 7;
        private static final String NAMES = "setup room most writes merge shrink big";

        private final int[] values = new int[HOW_MANY];

        Settings() {
            values[SETUP] = 10;
            values[ROOM] = 40;
            values[MOST] = 12;
            values[WRITES] = PATCH;
            values[MERGE] = 1;
            values[SHRINK] = 1;
            values[BIG] = 1024;
        }

        int of(int what) {
            return what >= 0 && what < HOW_MANY ? values[what] : NONE;
        }

        void become(int what, int value) {
            if (what >= 0 && what < HOW_MANY) values[what] = value;
        }

        void copyFrom(Settings other) {
            System.arraycopy(other.values, 0, values, 0, HOW_MANY);
        }

        /** Answers how many parts were read; the tape knows the fault. */
        int readParts(Tape tape) {
            int parts = 0;
            boolean more = true;
            for (; more && parts < Tape.ROOM; parts++) {
                int what = tape.word(NAMES);
                tape.wants(' ');
                become(what, readValue(tape, what));
                more = tape.another(true);
            }
            return parts;
        }

        private int readValue(Tape tape, int what) {
            switch (what) {
                case SETUP: return tape.number(2, 0, 99);
                case ROOM: return tape.number(2, LEAST_ROOM, MOST_ROOM);
                case MOST: return tape.number(2, 1, Cache.MOST_REGIONS);
                case WRITES: return tape.word("patch drop cut");
                case BIG: return tape.number(4, 1, 1024);
                default: return tape.word("off on");
            }
        }
    }

    /** The REGIONS over a store, and what was asked and paid for them. */
    private static final class Cache {
        static final int MOST_REGIONS = 12;
        /**
         * Among 12 regions MISSING has at most 169 boxes: only lines of y run on beyond a region, two of each, so the
         * i-th one (from 0) meets at most 2i + 1 of the boxes so far, one above the other, and makes at most 2i + 3
         * more of them.
         */
        static final int MOST_MISSING = 169;
        static final int CAPACITY = MOST_REGIONS + MOST_MISSING;
        private static final int MOST_HITS = 9999;
        /** More than a turn for each region ahead of each merging and behind the last one. */
        private static final int MOST_TURNS = 100000;

        final Store store;
        final Settings settings = new Settings();
        int count = 0;
        final int[] numbers = new int[CAPACITY];
        final int[] boxes = new int[CAPACITY];
        final int[] hits = new int[CAPACITY];
        final int[] hots = new int[CAPACITY];
        final long[] weights = new long[CAPACITY];
        int nextNumber = 0;
        long level = 0;
        int asks = 0, paid = 0, evicted = 0, shrunk = 0, merged = 0, touched = 0;
        private final Boxes missing = new Boxes(MOST_MISSING);
        private final Boxes spare = new Boxes(MOST_MISSING);

        Cache(Store store) {
            this.store = store;
        }

        /** But for the settings. */
        void forgetAll() {
            count = 0;
            nextNumber = 0;
            level = 0;
            asks = 0;
            paid = 0;
            evicted = 0;
            shrunk = 0;
            merged = 0;
            touched = 0;
        }

        void copyFrom(Cache other) {
            settings.copyFrom(other.settings);
            System.arraycopy(other.numbers, 0, numbers, 0, CAPACITY);
            System.arraycopy(other.boxes, 0, boxes, 0, CAPACITY);
            System.arraycopy(other.hits, 0, hits, 0, CAPACITY);
            System.arraycopy(other.hots, 0, hots, 0, CAPACITY);
            System.arraycopy(other.weights, 0, weights, 0, CAPACITY);
            count = other.count;
            nextNumber = other.nextNumber;
            level = other.level;
            asks = other.asks;
            paid = other.paid;
            evicted = other.evicted;
            shrunk = other.shrunk;
            merged = other.merged;
            touched = other.touched;
        }

        int sizeOf(int box) {
            return 1 + Long.bitCount(store.rowsIn(box));
        }

        int costOf(int box) {
            return settings.of(Settings.SETUP) + Long.bitCount(store.rowsIn(box));
        }

        int sizes() {
            int sizes = count;
            for (int i = 0; i < count; i++) {
                sizes += Long.bitCount(store.rowsIn(boxes[i]));
            }
            return sizes;
        }

        /** A QUERY, but for its answer. */
        void serve(int box) {
            missingOf(box);
            for (int i = 0; i < count; i++) {
                if (Box.meet(boxes[i], box)) hit(i, Box.common(boxes[i], box));
            }
            for (int i = 0; i < missing.count; i++) {
                int piece = missing.at(i);
                ask(piece);
                if (Box.area(piece) <= settings.of(Settings.BIG)) addNew(piece);
            }
            merge();
            trim();
        }

        /** What it answers stands until the next such call. */
        Boxes missingOf(int box) {
            missing.count = 0;
            missing.add(box);
            for (int i = 0; i < count; i++) {
                if (Box.meet(boxes[i], box)) {
                    spare.becomeRest(missing, boxes[i]);
                    missing.copyFrom(spare);
                }
            }
            return missing;
        }

        private void hit(int i, int common) {
            hits[i] = Math.min(MOST_HITS, hits[i] + 1);
            hots[i] = Box.around(hots[i], common);
            weigh(i);
        }

        private void weigh(int i) {
            int rows = Long.bitCount(store.rowsIn(boxes[i]));
            long cost = settings.of(Settings.SETUP) + rows;
            weights[i] = level + 1000 * cost * (1 + hits[i]) / (1 + rows);
        }

        private void ask(int box) {
            asks++;
            paid += costOf(box);
        }

        private void addNew(int box) {
            if (addLast(box, 0, Box.VOID, 0)) weigh(count - 1);
        }

        private boolean addLast(int box, int itsHits, int hot, long weight) {
            if (count >= CAPACITY) return false;
            numbers[count] = nextNumber;
            boxes[count] = box;
            hits[count] = itsHits;
            hots[count] = hot;
            weights[count] = weight;
            nextNumber++;
            count++;
            return true;
        }

        private void remove(int gone) {
            for (int i = gone + 1; i < count; i++) {
                numbers[i - 1] = numbers[i];
                boxes[i - 1] = boxes[i];
                hits[i - 1] = hits[i];
                hots[i - 1] = hots[i];
                weights[i - 1] = weights[i];
            }
            count--;
        }

        private void merge() {
            if (settings.of(Settings.MERGE) == 0) return;
            int first = 0;
            for (int n = MOST_TURNS; n > 0 && first < count; n--) {
                int other = otherBehind(first);
                if (other < 0) {
                    first++;
                } else {
                    mergeInto(first, other);
                    first = earliestFor(first);
                }
            }
        }

        private int otherBehind(int first) {
            for (int i = first + 1; i < count; i++) {
                if (Box.join(boxes[first], boxes[i])) return i;
            }
            return NONE;
        }

        /** Ahead of a merged one there was no pair: the next one that begins there can only be with it. */
        private int earliestFor(int merged) {
            for (int i = 0; i < merged; i++) {
                if (Box.join(boxes[i], boxes[merged])) return i;
            }
            return merged;
        }

        private void mergeInto(int i, int j) {
            boxes[i] = Box.around(boxes[i], boxes[j]);
            hits[i] = Math.min(MOST_HITS, hits[i] + hits[j]);
            hots[i] = Box.around(hots[i], hots[j]);
            weights[i] = Math.max(weights[i], weights[j]);
            remove(j);
            merged++;
        }

        /** A region is shrunk once at most ahead of its going, as it has no HOT then: two turns for each are enough. */
        void trim() {
            for (int n = 2 * count; n > 0 && count > 0 && isTooMuch(); n--) {
                giveUp(lightest());
            }
        }

        private boolean isTooMuch() {
            return count > settings.of(Settings.MOST) || sizes() > settings.of(Settings.ROOM);
        }

        /** The least number of several is the earliest, as new regions come last. */
        private int lightest() {
            int lightest = 0;
            for (int i = 1; i < count; i++) {
                if (weights[i] < weights[lightest]) lightest = i;
            }
            return lightest;
        }

        private void giveUp(int i) {
            level = Math.max(level, weights[i]);
            boolean canShrink = hots[i] != Box.VOID && Box.area(hots[i]) < Box.area(boxes[i]);
            if (settings.of(Settings.SHRINK) == 0 || !canShrink) {
                remove(i);
                evicted++;
                return;
            }
            boxes[i] = hots[i];
            hots[i] = Box.VOID;
            hits[i] /= 2;
            weigh(i);
            shrunk++;
        }

        /** A WRITE at the place that the box is. */
        void write(int place) {
            int i = regionAt(place);
            if (i < 0) return;
            touched++;
            int writes = settings.of(Settings.WRITES);
            if (writes == Settings.PATCH) return;
            int box = boxes[i], itsHits = hits[i], hot = hots[i];
            long weight = weights[i];
            remove(i);
            if (writes == Settings.DROP) return;
            spare.count = 0;
            spare.addRest(box, place);
            for (int k = 0; k < spare.count; k++) {
                addLast(spare.at(k), itsHits, Box.common(hot, spare.at(k)), weight);
            }
        }

        private int regionAt(int place) {
            for (int i = 0; i < count; i++) {
                if (Box.meet(boxes[i], place)) return i;
            }
            return NONE;
        }

        /** Answers how many of the boxes became regions. */
        int admit(Boxes loaded) {
            int came = 0;
            for (int i = 0; i < loaded.count; i++) {
                if (regionAt(loaded.at(i)) < 0) {
                    ask(loaded.at(i));
                    addNew(loaded.at(i));
                    came++;
                }
            }
            trim();
            return came;
        }

        /** KEEPING; the sets are tried by their bits, so that the least of several comes first. */
        int bestSet(int room) {
            int best = 0;
            long most = 0;
            for (int set = 1; set < 1 << Math.min(count, MOST_REGIONS); set++) {
                int sizes = 0;
                long benefit = 0;
                for (int i = 0; i < count && sizes <= room; i++) {
                    if ((set >> i & 1) == 0) continue;
                    int rows = Long.bitCount(store.rowsIn(boxes[i]));
                    sizes += 1 + rows;
                    benefit += (settings.of(Settings.SETUP) + rows) * (1L + hits[i]);
                }
                if (sizes <= room && benefit > most) {
                    best = set;
                    most = benefit;
                }
            }
            return best;
        }
    }

    /** The WATCHES. */
    private static final class Watches {
        private static final int MOST = 6;

        private final int[] measures = new int[MOST];
        private final int[] boxes = new int[MOST];
        final int[] changes = new int[MOST];
        private final long[] before = new long[MOST];
        private final Finding seen = new Finding();
        int count = 0;

        boolean has(int watch) {
            return watch >= 0 && watch < count && watch < MOST;
        }

        /** False, if there is no room for it. */
        boolean add(int measure, int box) {
            if (count >= MOST) return false;
            measures[count] = measure;
            boxes[count] = box;
            changes[count] = 0;
            count++;
            return true;
        }

        long valueOf(int watch, Store store) {
            if (!has(watch)) return NO;
            seen.gather(store, store.rowsIn(boxes[watch]));
            return seen.measured(measures[watch]);
        }

        /** Ahead of a put() or take(); compare() is behind it. */
        void remember(Store store) {
            for (int i = 0; i < count && i < MOST; i++) {
                before[i] = valueOf(i, store);
            }
        }

        void compare(Store store) {
            for (int i = 0; i < count && i < MOST; i++) {
                if (valueOf(i, store) != before[i]) changes[i]++;
            }
        }

        void copyFrom(Watches other) {
            System.arraycopy(other.measures, 0, measures, 0, MOST);
            System.arraycopy(other.boxes, 0, boxes, 0, MOST);
            System.arraycopy(other.changes, 0, changes, 0, MOST);
            count = other.count;
        }
    }

    /** All that THE IMAGE has. */
    private static final class State {
        private static final int MOST_TRACED = 10;

        final Store store = new Store();
        final Cache cache = new Cache(store);
        final Finding found = new Finding();
        final Boxes trace = new Boxes(MOST_TRACED);
        final Watches watches = new Watches();

        void copyFrom(State other) {
            store.copyFrom(other.store);
            cache.copyFrom(other.cache);
            found.copyFrom(other.found);
            trace.copyFrom(other.trace);
            watches.copyFrom(other.watches);
        }
    }

    /** THE TAPE, read from its begin; behind the first FAULT it reads as if it were at its end. */
    private static final class Tape {
        static final int ROOM = 160;
        private static final int END = 0;
        private static final int SOUND = -1;

        private final byte[] bytes = new byte[ROOM];
        int length = 0;
        private int at = 0;
        private int fault = SOUND;

        /** False, if there is no room for it. */
        boolean append(int letter) {
            if (length >= ROOM) return false;
            bytes[length] = (byte) letter;
            length++;
            return true;
        }

        void begin() {
            at = 0;
            fault = SOUND;
        }

        boolean isSound() {
            return fault == SOUND;
        }

        /** The tape is empty then; answers what is given, or the FAULT. */
        int end(int answer) {
            length = 0;
            return isSound() ? answer : -100 - fault;
        }

        private void blame(int place) {
            if (fault == SOUND) fault = place;
        }

        private int here() {
            return fault == SOUND && at >= 0 && at < length && at < ROOM ? bytes[at] : END;
        }

        boolean takes(int letter) {
            if (here() != letter) return false;
            at++;
            return true;
        }

        void wants(int letter) {
            if (here() == letter) {
                at++;
            } else {
                blame(at);
            }
        }

        /** Which of the signs stands here. */
        int oneOf(String signs) {
            int which = signs.indexOf((char) here());
            if (which < 0) {
                blame(at);
            } else {
                at++;
            }
            return which;
        }

        /** Behind a part: does another one come, where one may? */
        boolean another(boolean may) {
            if (may && takes(';')) return true;
            if (here() != END) blame(at);
            return false;
        }

        int number(int figures, int least, int most) {
            int begin = at;
            int number = 0;
            for (int i = 0; i < figures && here() >= '0' && here() <= '9'; i++) {
                number = number * 10 + here() - '0';
                at++;
            }
            if (at == begin || number < least || number > most) blame(begin);
            return number;
        }

        /** Which of the words (parted by blanks) the WORD here is. */
        int word(String words) {
            int begin = at;
            for (int i = 0; i < ROOM && here() >= 'a' && here() <= 'z'; i++) {
                at++;
            }
            int which = 0;
            int start = 0;
            for (int i = 0; i <= words.length(); i++) {
                if (i == words.length() || words.charAt(i) == ' ') {
                    if (isSame(words, start, i, begin)) return which;
                    which++;
                    start = i + 1;
                }
            }
            blame(begin);
            return NONE;
        }

        /** Is what was read since begin just the words' signs from start to end? */
        private boolean isSame(String words, int start, int end, int begin) {
            if (!isSound() || begin < 0 || at > ROOM || at - begin != end - start) return false;
            for (int i = 0; i < end - start && start + i < words.length(); i++) {
                if (bytes[begin + i] != words.charAt(start + i)) return false;
            }
            return true;
        }

        /** A BOX as the cache's regions are spelled. */
        int plainBox() {
            int x0 = number(2, 0, 31);
            wants('-');
            int x1 = number(2, x0, 31);
            wants(',');
            int y0 = number(2, 0, 31);
            wants('-');
            int y1 = number(2, y0, 31);
            return isSound() ? Box.of(x0, x1, y0, y1) : Box.VOID;
        }

        /** A BOX as two RANGES. */
        int ranges() {
            int x = range();
            wants(' ');
            int y = range();
            return isSound() ? Box.of(x / Box.LINES, x % Box.LINES, y / Box.LINES, y % Box.LINES) : Box.VOID;
        }

        /** A RANGE n-m as n times 32 and m. */
        private int range() {
            if (takes('*')) return Box.LINES - 1;
            int first = number(2, 0, 31);
            return first * Box.LINES + (takes('-') ? number(2, first, 31) : first);
        }
    }

    /** The QUERIES of a text; E comes out as the set of rows for which it holds, as no query changes a row. */
    private static final class Queries {
        static final int MOST = 8;
        private static final int DEEPEST = 4;

        private final Tape tape;
        private final Store store;
        final int[] measures = new int[MOST];
        final int[] boxes = new int[MOST];
        final long[] rows = new long[MOST];
        int count = 0;

        Queries(Tape tape, Store store) {
            this.tape = tape;
            this.store = store;
        }

        void readParts() {
            count = 0;
            boolean more = true;
            for (int i = 0; more && i < MOST; i++) {
                measures[i] = tape.word("count sum least most mean span kinds");
                tape.wants(' ');
                boxes[i] = tape.ranges();
                rows[i] = readIf();
                count = i + 1;
                more = tape.another(count < MOST);
            }
        }

        private long readIf() {
            if (!tape.takes(' ')) return Store.ALL;
            tape.word("if");
            tape.wants(' ');
            return either(0);
        }

        /** E, as deep as it stands in others of ( and !. */
        private long either(int depth) {
            long holds = both(depth);
            for (int i = 0; i < Tape.ROOM && tape.takes('|'); i++) {
                holds |= both(depth);
            }
            return holds;
        }

        private long both(int depth) {
            long holds = single(depth);
            for (int i = 0; i < Tape.ROOM && tape.takes('&'); i++) {
                holds &= single(depth);
            }
            return holds;
        }

        private long single(int depth) {
            if (depth < DEEPEST && tape.takes('!')) return ~single(depth + 1);
            if (depth < DEEPEST && tape.takes('(')) {
                long holds = either(depth + 1);
                tape.wants(')');
                return holds;
            }
            int letter = tape.oneOf("wxyr");
            int compare = tape.oneOf("<=>");
            boolean isBelowZero = tape.takes('-');
            int number = tape.number(9, 0, 999999999);
            return store.rowsWith(letter, compare, isBelowZero ? -number : number);
        }
    }

    /** The LISTS. */
    private static final class Lists {
        static final int LONGEST = 60;
        private static final int HOW_MANY = 6;

        final long[][] rows = new long[HOW_MANY][LONGEST];
        /** -1, where a list holds nothing. */
        private final int[] lengths = new int[HOW_MANY];

        Lists() {
            for (int i = 0; i < HOW_MANY; i++) {
                lengths[i] = -1;
            }
        }

        static boolean isList(int list) {
            return list >= 0 && list < HOW_MANY;
        }

        /** NONE, NOTHING, or 0, if the list holds a row. */
        int refusal(int list) {
            if (!isList(list)) return NONE;
            return lengths[list] < 0 ? NOTHING : 0;
        }

        void make(int list, int n) {
            if (!isList(list) || n < 0 || n > LONGEST) return;
            lengths[list] = n;
            for (int i = 0; i < n; i++) {
                rows[list][i] = 0;
            }
        }

        boolean hasPlace(int list, int i) {
            return isList(list) && i >= 0 && i < lengths[list] && i < LONGEST;
        }

        /** Of a list that holds a row: are n places there from i on? */
        boolean hasSpan(int list, int i, int n) {
            return isList(list) && i >= 0 && n >= 0 && i <= lengths[list] && n <= lengths[list] - i;
        }

        /** None is laid from a place below 0 on, as the first would have no place there. */
        int layFrom(int list, int i, Finding found) {
            for (int k = 0; k < found.count && k < Store.ROWS; k++) {
                if (i < 0 || !hasPlace(list, i + k)) return BEYOND;
                rows[list][i + k] = found.worths[k];
            }
            return found.count;
        }

        int judgeFrom(int list, int i, Finding found) {
            if (i < 0) return 100;
            for (int k = 0; k < found.count && k < Store.ROWS; k++) {
                if (!hasPlace(list, i + k)) return 100 + k;
                if (rows[list][i + k] != found.worths[k]) return k;
            }
            return ABSENT;
        }
    }
}
