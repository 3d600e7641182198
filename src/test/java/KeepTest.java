/** Terms 6 and 7 and "Answers", sentence by sentence: probes, keeping, traces, watches, the image, lists, refusals. */
public final class KeepTest {
    private static final long NO = RangeAnswers.NO, OVER = RangeAnswers.OVER;
    private static final int MIN = Integer.MIN_VALUE, MAX = Integer.MAX_VALUE;

    /** A call that is refused, and what it answers. */
    private interface Call {
        long of(Counted x);
    }

    public static void main(String[] args) {
        pieces();
        keeping();
        keepingOfSeveral();
        traces();
        doneAgain();
        leastRoom();
        sixWatches();
        values();
        changes();
        image();
        imageGoesBack();
        lists();
        noSuchList();
        moving();
        laying();
        judging();
        refusedIsUnchanged();
        askedIsUnchanged();
        regionNumbers();
        toldNumbers();
        flushing();
        Check.end();
    }

    private static void pieces() {
        Check.says("PIECES: the COMMON BOXES with the REGIONS that it meets, in order, then MISSING, in order (none at first)");
        Counted x = new Counted();
        for (int i : new int[] {-1, 0, MIN, MAX}) Check.due("none at first", -1, x.piece(i, 0));
        Helper.load(x, "9-9,0-0;5-6,0-0;1-1,0-0");
        Check.due("pieces", 5, x.probe(1, 9, 0, 0));
        Check.due("pieces", "0:9-9,0-0 1:5-6,0-0 2:1-1,0-0 -5:2-4,0-0 -5:7-8,0-0", Helper.pieces(x));
        for (int i : new int[] {-1, 5, 6, 180, 181, MIN, MAX}) Check.due("piece " + i, -1, x.piece(i, 0));
        for (int what : new int[] {-1, 5, MIN, MAX}) Check.due("what " + what, -1, x.piece(0, what));
        x.flush();
        x.query(0, 5, 5, 5, 5);
        Check.due("of the latest probe", "0:9-9,0-0", Helper.piece(x, 0));
        Check.due("fewer", 1, x.probe(5, 5, 5, 5));
        Check.due("fewer", "3:5-5,5-5", Helper.pieces(x));
        Check.due("refused", -2, x.probe(5, 4, 5, 5));
        Check.due("the same", "3:5-5,5-5", Helper.pieces(x));
    }

    /** Three regions of SIZE 1, 2, 3 and COST 10, 11, 12. */
    private static Counted three() {
        Counted x = Helper.with("merge off");
        for (int r = 0; r < 3; r++) x.put(r, r < 1 ? 5 : 9, 0, 1);
        Helper.load(x, "1-1,0-0;5-5,0-0;9-9,0-0");
        return x;
    }

    private static void keeping() {
        Check.says("the set of REGIONS (as bits, by their order) whose SIZES together are n at most");
        Counted x = three();
        int[] due = {0, 1, 2, 3, 5, 6, 7, 7};
        for (int n = 0; n < due.length; n++) Check.due("keep " + n, due[n], x.keep(n));
        Check.due("keep the most", 7, x.keep(MAX));
        Check.says("BAD: below 0");
        Check.due("keep -1", -2, x.keep(-1));
        Check.due("keep the least", -2, x.keep(MIN));
        Check.says("whose COST times (1 and HITS), together, are the most");
        x.query(0, 9, 9, 0, 0);
        int[] then = {0, 1, 2, 4, 5, 6, 7};
        for (int n = 0; n < then.length; n++) Check.due("keep " + n, then[n], x.keep(n));
        Check.due("HITS stay", 1, x.region(2, 5));
        x.flush();
        Check.due("no REGIONS", 0, x.keep(99));
    }

    private static void keepingOfSeveral() {
        Check.says("of several the least as bits");
        Counted x = new Counted();
        Helper.load(x, "0-0,0-0;2-2,0-0;4-4,0-0;6-6,0-0");
        for (int n = 0; n <= 5; n++) Check.due("alike, keep " + n, (1 << Math.min(n, 4)) - 1, x.keep(n));
        Helper.set(x, "setup 0");
        for (int n = 0; n <= 5; n++) Check.due("worth nothing, keep " + n, 0, x.keep(n));
        x.put(0, 4, 0, 1);
        for (int n = 0; n <= 5; n++) Check.due("one is worth something, keep " + n, n < 2 ? 0 : 4, x.keep(n));
        x = new Counted();
        StringBuilder s = new StringBuilder();
        for (int i = 0; i < 12; i++) s.append(i > 0 ? ";" : "").append(2 * i + "-" + 2 * i + ",0-0");
        Helper.load(x, s.toString());
        for (int n = 10; n <= 13; n++) Check.due("of twelve", (1 << Math.min(n, 12)) - 1, x.keep(n));
        x.query(0, 22, 22, 0, 0);
        Check.due("the twelfth alone", 2048, x.keep(1));
        Check.due("and the first", 2049, x.keep(2));
    }

    private static void traces() {
        Check.says("A TRACE of BOXES told by hand (10 at most)");
        Counted x = new Counted();
        Check.due("no BOX", 0, x.again(40, 1));
        for (int i = 1; i <= 10; i++) Check.due("trace", i, x.trace(3 * i, 3 * i, 0, 0));
        Check.due("the eleventh", -4, x.trace(0, 0, 0, 0));
        Check.due("no BOX: BAD, as it is named first", -2, x.trace(0, 32, 0, 0));
        Check.due("ten ASKS", 10, x.again(40, 1));
        Check.says("x0 -1: it is empty then, 0, whatever the others are");
        Check.due("emptied", 0, x.trace(-1, MIN, MAX, -1));
        Check.due("no ASKS", 0, x.again(40, 1));
        Check.due("emptied twice", 0, x.trace(-1, -1, -1, -1));
        Check.due("the first", 1, x.trace(0, 0, 0, 0));
        Check.due("-2", -2, x.trace(-2, 0, 0, 0));
        Check.due("emptied", 0, x.trace(-1, 5, 5, 5));
        Check.due("the first", 1, x.trace(31, 31, 31, 31));
    }

    private static void doneAgain() {
        Check.says("from no REGIONS, LEVEL 0, ASKS, PAID, EVICTED and all such 0, SETTINGS otherwise as they are");
        Counted x = Helper.with("most 2");
        x.trace(1, 1, 1, 1);
        x.trace(3, 3, 3, 3);
        x.trace(5, 5, 5, 5);
        x.trace(1, 1, 1, 1);
        for (int i = 0; i < 4; i++) x.query(0, 1 + 2 * i, 1 + 2 * i, 1, 1);
        String before = Helper.imaged(x);
        int[] due = {40, 4, 2, 0, 0, 2};
        for (int turn = 0; turn < 2; turn++) {
            for (int what = 0; what < 6; what++) Check.due("what " + what, due[what], x.again(40, what));
        }
        Check.says("nothing of it stays");
        Check.due("all is as it was", before, Helper.imaged(x));
        x = Helper.with("most 1;merge off;setup 0;big 1");
        x.trace(1, 2, 1, 1);
        x.trace(5, 5, 5, 5);
        int[] other = {0, 2, 0, 0, 0, 1};
        for (int what = 0; what < 6; what++) Check.due("other SETTINGS " + what, other[what], x.again(40, what));
        Check.says("what 0 PAID, 1 ASKS, .. 5 REGIONS. NONE: what; BAD: n (1 .. 99)");
        for (int what : new int[] {-1, 6, MIN, MAX}) {
            Check.due("what " + what, -1, x.again(40, what));
            Check.due("what is named first", -1, x.again(0, what));
        }
        for (int n : new int[] {0, 100, -1, MIN, MAX}) Check.due("ROOM " + n, -2, x.again(n, 1));
        for (int n : new int[] {1, 2, 98, 99}) Check.due("ROOM " + n, 2, x.again(n, 1));
    }

    private static void leastRoom() {
        Check.says("LEAST ROOM: the least n (1 .. 99) by which PAID is that at most then (-5: none)");
        Counted x = new Counted();
        Check.due("no TRACE", 1, x.least(0));
        Check.due("no TRACE", 1, x.least(MAX));
        Check.due("below all", -5, x.least(-1));
        Check.due("below all", -5, x.least(MIN));
        for (int r = 0; r < 60; r++) x.put(r, r % 30, r / 30, 1);
        for (int turn = 0; turn < 2; turn++) x.trace(0, 29, 0, 1);
        x.trace(31, 31, 31, 31);
        Check.due("any ROOM", 1, x.least(150));
        Check.due("room for all the rows", 61, x.least(149));
        Check.due("room for all the rows", 61, x.least(80));
        Check.due("the ASKS that must be", -5, x.least(79));
        x = new Counted();
        x.trace(0, 0, 0, 0);
        Check.due("just PAID", 1, x.least(10));
        Check.due("one less", -5, x.least(9));
        Helper.set(x, "setup 0");
        Check.due("nothing is paid", 1, x.least(0));
        Check.due("below all", -5, x.least(-1));
    }

    private static void sixWatches() {
        Check.says("WATCHES (6 at most)");
        Counted x = new Counted();
        for (int i = 0; i < 6; i++) Check.due("watch", i, x.watch(i + 1, i, 31, i, 31));
        Check.due("the seventh", -4, x.watch(0, 0, 31, 0, 31));
        Check.says("NONE: measure; BAD; FULL: 6");
        Check.due("no BOX", -2, x.watch(0, 1, 0, 0, 0));
        for (int m : new int[] {-1, 7, MIN, MAX}) {
            Check.due("no measure", -1, x.watch(m, 0, 31, 0, 31));
            Check.due("no measure, no BOX", -1, x.watch(m, 0, 32, 0, 31));
        }
        for (int i : new int[] {-1, 6, MIN, MAX}) {
            Check.due("value " + i, NO, x.value(i));
            Check.due("changes " + i, -1, x.changes(i));
        }
        Check.due("the sixth", 0, x.value(5));
    }

    private static void values() {
        Check.says("its value is the MEASURE of the ROWS in the BOX, now (nothing is asked or paid)");
        Counted x = new Counted();
        for (int m = 0; m < 6; m++) x.watch(m, 3, 5, 3, 5);
        int[][] rows = {{3, 3}, {5, 5}, {2, 4}, {6, 4}, {4, 2}, {4, 6}};
        for (int r = 0; r < rows.length; r++) x.put(r, rows[r][0], rows[r][1], 1 << r);
        long[] due = {2, 3, 1, 2, 1, 1};
        for (int m = 0; m < 6; m++) Check.due("value " + m, due[m], x.value(m));
        x.take(0);
        x.take(1);
        long[] none = {0, 0, NO, NO, NO, NO};
        for (int m = 0; m < 6; m++) Check.due("no ROWS " + m, none[m], x.value(m));
        Check.due("nothing asked", 0, x.told(0) + x.told(2) + x.told(3));
        Check.due("no FIND", 0, x.find(-1));
        x.put(0, 3, 3, Long.MAX_VALUE);
        x.put(1, 4, 4, 1);
        Check.due("OVER", OVER, x.value(1));
        Check.due("OVER", OVER, x.value(4));
    }

    private static void changes() {
        Check.says("CHANGES: how many put() and take() made it another one");
        Counted x = new Counted();
        x.watch(2, 0, 9, 0, 9);
        x.watch(0, 0, 9, 0, 9);
        x.watch(1, 0, 9, 0, 9);
        x.put(0, 9, 9, 0);
        Check.due("from NO to 0", 1, x.changes(0));
        Check.due("the count", 1, x.changes(1));
        Check.due("0 more", 0, x.changes(2));
        x.put(0, 0, 0, 0);
        x.put(1, 10, 9, 7);
        x.put(1, 9, 10, 7);
        Check.due("moved within, put beside", 2, x.changes(0) + x.changes(1));
        x.put(0, 10, 10, 0);
        Check.due("from 0 to NO", 2, x.changes(0));
        x.put(0, 4, 4, 5);
        x.put(0, 5, 5, 6);
        Check.due("another WORTH", 4, x.changes(0));
        Check.due("the count is the same", 3, x.changes(1));
        Check.due("the sum", 2, x.changes(2));
        x.put(0, 32, 5, 9);
        x.put(60, 5, 5, 9);
        x.put(0, 5, 5, NO);
        x.take(59);
        x.take(-1);
        Check.due("refused", 4 + 3 + 2, x.changes(0) + x.changes(1) + x.changes(2));
        x.query(0, 0, 31, 0, 31);
        x.flush();
        Helper.set(x, "setup 1;room 1");
        Check.due("not by others", 4 + 3 + 2, x.changes(0) + x.changes(1) + x.changes(2));
        x.put(2, 1, 1, Long.MAX_VALUE);
        x.put(3, 1, 1, Long.MAX_VALUE);
        Check.due("OVER, and OVER again", 3, x.changes(2));
        x.take(0);
        Check.due("OVER yet", 3, x.changes(2));
        x.take(2);
        Check.due("a long again", 4, x.changes(2));
    }

    private static void image() {
        Check.says("undo(): All is as THE IMAGE: how many REGIONS. STATE: there is none");
        Counted x = new Counted();
        Check.due("none", -3, x.undo());
        x.query(0, 3, 3, 3, 3);
        Check.due("none", -3, x.undo());
        Check.due("nothing changes", 1, x.told(0));
        Check.due("image", 1, x.image());
        x.query(0, 5, 5, 5, 5);
        Check.due("undo", 1, x.undo());
        Check.due("again", 1, x.undo());
        x.flush();
        Check.due("image of no REGIONS", 0, x.image());
        x.query(0, 5, 5, 5, 5);
        Check.due("undo", 0, x.undo());
        Check.due("no REGIONS", 0, x.told(0));
        x = new Counted();
        Check.due("image of a new one", 0, x.image());
        Check.due("undo", 0, x.undo());
    }

    /** A bit of all that an object may hold. */
    private static Counted rich() {
        Counted x = Helper.with("most 3;merge off;setup 4;writes cut;room 30");
        for (int r = 0; r < 6; r++) x.put(r, r, r, r * r - 5);
        x.watch(1, 0, 9, 0, 9);
        x.watch(4, 0, 3, 0, 3);
        x.query(1, 0, 2, 0, 2);
        x.query(1, 1, 1, 1, 1);
        x.query(1, 4, 9, 4, 9);
        x.put(6, 7, 7, 1);
        x.query(1, 0, 9, 0, 3);
        x.trace(0, 5, 0, 5);
        x.trace(0, 5, 0, 5);
        x.list(0, 3);
        x.set(0, 1, 77);
        x.list(5, 0);
        x.probe(0, 5, 0, 5);
        x.explain(0, 3, 0, 3);
        Helper.run(x, "sum * *;count * * if w>0");
        Helper.feed(x, "xyz");
        return x;
    }

    private static void imageGoesBack() {
        Check.says("THE IMAGE: ROWS, SETTINGS, REGIONS with all that is theirs, what NUMBER comes next, LEVEL, ..");
        Call[] others = {
            x -> x.put(0, 9, 9, 1), x -> x.put(40, 9, 9, 1), x -> x.put(3, 3, 3, 99), x -> x.take(2),
            x -> x.query(0, 0, 31, 0, 31), x -> x.query(0, 30, 31, 30, 31), x -> x.flush(), x -> x.trace(0, 31, 0, 31),
            x -> x.trace(-1, 0, 0, 0), x -> x.watch(0, 0, 31, 0, 31),
            x -> x.clear() + Helper.set(x, "most 1;setup 50;writes drop;merge on;shrink off;big 3;room 9"),
            x -> x.clear() + Helper.load(x, "20-20,20-20;22-22,22-22"), x -> x.clear() + Helper.run(x, "sum 0 *")};
        for (int i = 0; i < others.length; i++) {
            Counted x = rich();
            x.image();
            others[i].of(x);
            Check.due("undo behind call " + i, 3, x.undo());
            Check.due("all that call " + i + " changed", Helper.imaged(rich()), Helper.imaged(x));
            x.query(0, 0, 31, 0, 31);
            Check.due("the ROWS are found behind call " + i, "0 1 2 3 4 5 6", Helper.found(x));
            x.query(0, 0, 31, 7, 7);
            Check.due("the ROWS are found behind call " + i, "6", Helper.found(x));
        }
        Counted x = rich();
        x.image();
        for (int i = 0; i < 3; i++) x.query(0, 20 + i, 20 + i, 0, 0);
        x.undo();
        x.query(0, 20, 20, 0, 0);
        Counted y = rich();
        y.query(0, 20, 20, 0, 0);
        Check.due("what NUMBER comes next", Helper.regions(y), Helper.regions(x));
        Check.due("changes", y.changes(0), x.changes(0));
        x.put(50, 1, 1, 1000);
        Check.due("a change more", y.changes(0) + 1, x.changes(0));
        x.undo();
        Check.due("CHANGES are of the WATCHES", y.changes(0), x.changes(0));
        Check.says("All is as THE IMAGE (that has no LISTS, no ANSWERS, no PAPER, no PIECES, no TAPE)");
        x = rich();
        x.image();
        x.set(0, 0, 5);
        x.list(1, 1);
        x.clear();
        Helper.run(x, "least 5 5");
        Helper.feed(x, "ab");
        x.spell();
        x.probe(31, 31, 31, 31);
        x.undo();
        Check.due("LISTS", "5 77 0", Helper.list(x, 0));
        Check.due("LISTS", 0, x.get(1, 0));
        Check.due("ANSWERS", 20, x.answer(0));
        Check.due("PAPER", '0', x.paper(0));
        Check.due("PIECES", "-5:31-31,31-31", Helper.pieces(x));
        Check.due("TAPE", 2, x.clear());
    }

    private static void lists() {
        Check.says("LISTS 0 .. 5 hold nothing (at first) or a row of 0 .. 60 longs");
        for (int l = 0; l < 6; l++) {
            Counted x = new Counted();
            Check.due("get", NO, x.get(l, 0));
            Check.due("set", -11, x.set(l, 0, 1));
            Check.due("lay", -11, x.lay(l, 0));
            Check.due("judge", -11, x.judge(l, 0));
            Check.due("move", -11, x.move(l, 0, l, 0, 0));
            Check.due("too long", -2, x.list(l, 61));
            Check.due("BELOW", -14, x.list(l, -1));
            Check.due("nothing yet", -11, x.set(l, 0, 1));
            Check.due("none", 1, x.list(l, 0));
            Check.due("no place in it", -13, x.set(l, 0, 1));
            Check.due("no place in it", NO, x.get(l, 0));
            Check.due("none moved", 0, x.move(l, 0, l, 0, 0));
            Check.due("the longest", 1, x.list(l, 60));
            Check.due("first", 1, x.set(l, 0, Long.MIN_VALUE + 5));
            Check.due("last", 1, x.set(l, 59, Long.MAX_VALUE));
            Check.due("beyond", -13, x.set(l, 60, 1));
            Check.due("below", -13, x.set(l, -1, 1));
            Check.due("first", Long.MIN_VALUE + 5, x.get(l, 0));
            Check.due("last", Long.MAX_VALUE, x.get(l, 59));
            for (int i : new int[] {-1, 60, 61, 64, MIN, MAX}) Check.due("get " + i, NO, x.get(l, i));
            Check.due("refused", -2, x.list(l, MAX));
            Check.due("refused", -14, x.list(l, MIN));
            Check.due("stays", Long.MAX_VALUE, x.get(l, 59));
            Check.due("all 0 again", 1, x.list(l, 60));
            Check.due("all 0 again", 0, x.get(l, 59) | x.get(l, 0));
            for (int o = 0; o < 6; o++) if (o != l) Check.due("another one", NO, x.get(o, 0));
        }
    }

    private static void noSuchList() {
        Check.says("NONE (-1) no such number .. the first that a call's words name");
        Counted x = new Counted();
        x.list(0, 3);
        for (int l : new int[] {-1, 6, 7, 64, MIN, MAX}) {
            Check.due("list", -1, x.list(l, 3));
            Check.due("list, too long", -1, x.list(l, 61));
            Check.due("list, below", -1, x.list(l, -1));
            Check.due("set", -1, x.set(l, 0, 1));
            Check.due("set, no place", -1, x.set(l, -1, 1));
            Check.due("get", NO, x.get(l, 0));
            Check.due("move from it", -1, x.move(l, 0, 0, 0, 1));
            Check.due("move to it", -1, x.move(0, 0, l, 0, 1));
            Check.due("move to it, from nothing", -1, x.move(1, 0, l, 0, 1));
            Check.due("move from it, no such place", -1, x.move(l, -1, 1, -1, -1));
            Check.due("lay", -1, x.lay(l, 0));
            Check.due("judge", -1, x.judge(l, 0));
            Check.due("lay below", -1, x.lay(l, -1));
            Check.due("judge below", -1, x.judge(l, -1));
        }
        Check.due("NOTHING ahead of BEYOND", -11, x.set(1, -1, 1));
        Check.due("NOTHING ahead of BEYOND", -11, x.move(1, -1, 0, 0, 1));
        Check.due("NOTHING ahead of BEYOND", -11, x.move(0, 0, 1, 0, -1));
        Check.due("NOTHING ahead of BEYOND", -11, x.lay(1, -1));
        Check.due("NOTHING ahead of the place", -11, x.judge(1, -1));
    }

    private static Counted five() {
        Counted x = new Counted();
        x.list(0, 5);
        for (int i = 0; i < 5; i++) x.set(0, i, i + 1);
        x.list(1, 3);
        return x;
    }

    private static void moving() {
        Check.says("BEYOND: n, i or j is below 0, or beyond either's end");
        int[][] beyond = {{-1, 0, 1}, {0, -1, 1}, {0, 0, -1}, {5, 0, 1}, {0, 3, 1}, {4, 0, 2}, {0, 2, 2}, {0, 0, 4}, {6, 0, 0},
            {0, 4, 0}, {-1, 0, 0}, {0, -1, 0}, {MAX, 0, 1}, {0, MAX, 1}, {0, 0, MAX}, {1, 1, MAX}, {MAX, MAX, MAX},
            {MIN, 0, 1}, {0, MIN, 1}, {0, 0, MIN}, {MAX, 0, 0}, {0, MAX, 0}, {MAX, 0, MIN}, {-1, -1, 2}};
        Counted x = five();
        for (int[] m : beyond) Check.due("move " + m[0] + " " + m[1] + " " + m[2], -13, x.move(0, m[0], 1, m[1], m[2]));
        Check.due("nothing moved", "0 0 0", Helper.list(x, 1));
        Check.due("none, at both ends", 0, x.move(0, 5, 1, 3, 0));
        Check.due("none, at the begins", 0, x.move(0, 0, 1, 0, 0));
        Check.due("the last to the last", 1, x.move(0, 4, 1, 2, 1));
        Check.due("moved", "0 0 5", Helper.list(x, 1));
        Check.due("as many as there are", 3, x.move(0, 2, 1, 0, 3));
        Check.due("moved", "3 4 5", Helper.list(x, 1));
        Check.due("the other stays", "1 2 3 4 5", Helper.list(x, 0));
        Check.says("come to another one (or the same) from j on, as they all were before");
        String[] due = {"1 1 2 3 4", "1 1 1 2 3", "1 1 1 1 2", "1 1 1 1 1"};
        Counted y = five();
        for (int j = 1; j < 5; j++) {
            y = five();
            Check.due("up by " + j, 5 - j, y.move(0, 0, 0, j, 5 - j));
            String want = "1 2 3 4 5".substring(0, 2 * j) + "1 2 3 4 5".substring(0, 9 - 2 * j);
            Check.due("up by " + j, want, Helper.list(y, 0));
            y = five();
            Check.due("down by " + j, 5 - j, y.move(0, j, 0, 0, 5 - j));
            want = "1 2 3 4 5".substring(2 * j) + " " + "1 2 3 4 5".substring(10 - 2 * j);
            Check.due("down by " + j, want, Helper.list(y, 0));
        }
        for (String d : due) {
            if (d == due[0]) y = five();
            y.move(0, 0, 0, 1, 4);
            Check.due("up again", d, Helper.list(y, 0));
        }
        Check.due("onto itself", 5, y.move(0, 0, 0, 0, 5));
        Check.due("beyond in itself", -13, y.move(0, 0, 0, 1, 5));
    }

    /** A FIND of three ROWS with the worths 7, -8, 9, and a list of n places. */
    private static Counted found(int n) {
        Counted x = new Counted();
        x.put(30, 0, 0, 7);
        x.put(2, 1, 0, -8);
        x.put(1, 2, 0, 9);
        x.query(0, 0, 31, 0, 31);
        x.list(0, n);
        return x;
    }

    private static void laying() {
        Check.says("BEYOND: not all were (those that had a place are there all the same; none, if i is below 0)");
        String[] due = {"7 -8 9 0 0", "0 7 -8 9 0", "0 0 7 -8 9", "0 0 0 7 -8", "0 0 0 0 7", "0 0 0 0 0"};
        for (int i = 0; i < due.length; i++) {
            Counted x = found(5);
            Check.due("lay from " + i, i < 3 ? 3 : -13, x.lay(0, i));
            Check.due("laid from " + i, due[i], Helper.list(x, 0));
        }
        for (int i : new int[] {-1, -2, -3, -4, 6, MIN, MAX, MAX - 1}) {
            Counted x = found(5);
            Check.due("lay from " + i, -13, x.lay(0, i));
            Check.due("none of them", "0 0 0 0 0", Helper.list(x, 0));
        }
        Counted x = found(0);
        Check.due("a row of none", -13, x.lay(0, 0));
        x = found(3);
        Check.due("just all", 3, x.lay(0, 0));
        x = found(5);
        x.query(0, 9, 9, 9, 9);
        for (int i : new int[] {0, 4, 5}) Check.due("an empty FIND, from " + i, 0, x.lay(0, i));
        Check.due("nothing laid", "0 0 0 0 0", Helper.list(x, 0));
        x = new Counted();
        x.list(0, 0);
        Check.due("no FIND yet", 0, x.lay(0, 0));
    }

    private static void judging() {
        Check.says("-5: none; 100 and how many were looked at, if the row ends ahead of that (or the place is below 0)");
        Counted x = found(5);
        x.lay(0, 1);
        Check.due("none", -5, x.judge(0, 1));
        Check.due("the first", 0, x.judge(0, 0));
        Check.due("the first", 0, x.judge(0, 2));
        Check.due("at the last place", 0, x.judge(0, 4));
        for (int i : new int[] {5, 6, 60, MAX, -1, -2, MIN}) Check.due("no such place " + i, 100, x.judge(0, i));
        x.set(0, 3, 10);
        Check.due("the third", 2, x.judge(0, 1));
        x.set(0, 2, 10);
        Check.due("the second ahead of it", 1, x.judge(0, 1));
        for (int n = 0; n <= 3; n++) {
            x = found(n);
            x.lay(0, 0);
            Check.due(n + " places", n < 3 ? 100 + n : -5, x.judge(0, 0));
        }
        x = found(2);
        x.lay(0, 0);
        x.set(0, 1, 5);
        Check.due("unlike ahead of the end", 1, x.judge(0, 0));
        x.query(0, 9, 9, 9, 9);
        for (int i : new int[] {0, 1, 2}) Check.due("an empty FIND", -5, x.judge(0, i));
        Check.due("an empty FIND, below 0", 100, x.judge(0, -1));
        x = new Counted();
        for (int r = 0; r < 60; r++) x.put(r, 3, 3, r);
        x.query(0, 3, 3, 3, 3);
        x.list(0, 59);
        Check.due("not all", -13, x.lay(0, 0));
        Check.due("59 looked at", 159, x.judge(0, 0));
        x.list(0, 60);
        Check.due("all", 60, x.lay(0, 0));
        Check.due("none", -5, x.judge(0, 0));
        x.set(0, 59, 0);
        Check.due("the last", 59, x.judge(0, 0));
    }

    private static void refusedIsUnchanged() {
        Check.says("What is answered so changes nothing");
        Call[] calls = {
            x -> x.put(-1, 0, 0, 1), x -> x.put(60, 0, 0, 1), x -> x.put(0, 32, 0, 1), x -> x.put(0, 0, -1, 1),
            x -> x.put(0, 5, 5, NO), x -> x.put(40, 5, 5, OVER), x -> x.take(-1), x -> x.take(60), x -> x.take(50),
            x -> x.feed(0), x -> x.feed(128), x -> x.explain(0, 32, 0, 0), x -> x.probe(3, 2, 0, 0), x -> x.keep(-1),
            x -> x.trace(0, 0, 1, 0), x -> x.trace(-2, 0, 0, 0), x -> x.again(0, 0), x -> x.again(40, 6),
            x -> x.watch(7, 0, 0, 0, 0), x -> x.watch(0, 1, 0, 0, 0), x -> x.list(6, 1), x -> x.list(0, 61),
            x -> x.list(0, -1), x -> x.set(6, 0, 1), x -> x.set(1, 0, 1), x -> x.set(0, 3, 1), x -> x.set(0, -1, 1),
            x -> x.move(6, 0, 0, 0, 1), x -> x.move(1, 0, 0, 0, 1), x -> x.move(0, 0, 0, 1, 3),
            x -> x.move(0, 1, 0, 0, 3), x -> x.move(0, 0, 0, 0, -1), x -> x.lay(6, 0), x -> x.lay(1, 0),
            x -> x.lay(0, -1), x -> x.lay(0, 3), x -> x.judge(6, 0), x -> x.judge(1, 0), x -> x.undo(),
            x -> Math.min(-1, x.query(7, 0, 31, 0, 31)), x -> x.query(0, 0, 32, 0, 31), x -> x.query(0, 2, 1, 0, 31)};
        String imaged = Helper.imaged(rich()), besides = Helper.besides(rich());
        for (int i = 0; i < calls.length; i++) {
            Counted x = rich();
            Check.due("call " + i + " is refused", 1, calls[i].of(x) < 0 ? 1 : 0);
            Check.due("behind call " + i, imaged, Helper.imaged(x));
            Check.due("behind call " + i, besides, Helper.besides(x));
            Check.due("THE TAPE behind call " + i, 3, x.clear());
        }
        for (int i = 0; i < 3; i++) {
            Counted x = rich();
            int answer = i == 0 ? x.settings() : i == 1 ? x.run() : x.load();
            Check.due("a FAULT of text " + i, -100, answer);
            Check.due("behind text " + i, imaged, Helper.imaged(x));
            Check.due("behind text " + i, besides, Helper.besides(x));
            Check.due("THE TAPE behind text " + i, 0, x.clear());
        }
        Counted full = rich();
        for (int i = 0; i < 160; i++) full.feed('a');
        Check.due("FULL", -4, full.feed('a'));
        Check.due("THE TAPE", 160, full.clear());
        full = rich();
        for (int i = 0; i < 12; i++) full.trace(0, 5, 0, 5);
        for (int i = 0; i < 6; i++) full.watch(1, 0, 9, 0, 9);
        String then = Helper.imaged(full);
        Check.due("FULL", -4, full.trace(30, 31, 30, 31));
        Check.due("FULL", -4, full.watch(0, 0, 0, 0, 0));
        Check.due("behind FULL", then, Helper.imaged(full));
    }

    private static void askedIsUnchanged() {
        Check.says("what is asked changes nothing but THE PAPER and PIECES");
        Call[] calls = {
            x -> x.row(0, 0), x -> x.worth(0), x -> x.setting(0), x -> x.answer(0), x -> x.paper(0), x -> x.find(-1),
            x -> x.find(0), x -> x.piece(0, 0), x -> x.region(0, 6), x -> x.weight(0), x -> x.told(3), x -> x.keep(9),
            x -> x.again(1, 0), x -> x.again(99, 5), x -> x.least(0), x -> x.least(99), x -> x.value(0),
            x -> x.changes(0), x -> x.get(0, 0), x -> x.judge(0, 0), x -> x.judge(0, -1), x -> x.image()};
        String imaged = Helper.imaged(rich()), besides = Helper.besides(rich());
        for (int i = 0; i < calls.length; i++) {
            Counted x = rich();
            calls[i].of(x);
            Check.due("behind call " + i, imaged, Helper.imaged(x));
            Check.due("behind call " + i, besides, Helper.besides(x));
            Check.due("THE TAPE behind call " + i, 3, x.clear());
        }
        Call[] told = {x -> x.spell(), x -> x.explain(0, 31, 0, 31), x -> x.probe(0, 31, 0, 31)};
        String paper = besides.substring(besides.indexOf(" paper"), besides.indexOf(" pieces"));
        String pieces = besides.substring(besides.indexOf(" pieces"), besides.indexOf(" lists"));
        for (int i = 0; i < told.length; i++) {
            Counted x = rich();
            told[i].of(x);
            Check.due("behind telling " + i, imaged, Helper.imaged(x));
            x = rich();
            long answer = told[i].of(x);
            Check.due("bytes of telling " + i, i < 2 ? answer : paper.length() - 7, x.told(10));
            String then = Helper.besides(x);
            Check.due("PAPER stays by telling " + i, i < 2 ? 0 : 1, then.contains(paper) ? 1 : 0);
            Check.due("PIECES stay by telling " + i, i < 2 ? 1 : 0, then.contains(pieces) ? 1 : 0);
        }
    }

    private static void regionNumbers() {
        Check.says("Of the i-th REGION what 0 .. 3 its BOX, 4 NUMBER, 5 HITS, 6 .. 9 HOT (-5: none), 10 SIZE, 11 COST");
        Counted x = Helper.with("merge off");
        x.put(0, 3, 4, 1);
        Helper.load(x, "20-20,20-20;1-6,2-7");
        x.query(0, 2, 3, 4, 5);
        int[] due = {1, 6, 2, 7, 1, 1, 2, 3, 4, 5, 2, 11};
        for (int what = 0; what < 12; what++) Check.due("what " + what, due[what], x.region(1, what));
        for (int what = 6; what < 10; what++) Check.due("no HOT " + what, -5, x.region(0, what));
        Check.says("NONE: i, what");
        for (int no : new int[] {-1, 12, 13, MIN, MAX}) Check.due("what " + no, -1, x.region(0, no));
        for (int no : new int[] {-1, 2, 12, 181, MIN, MAX}) {
            Check.due("region " + no, -1, x.region(no, 0));
            Check.due("weight " + no, NO, x.weight(no));
        }
        x.flush();
        Check.due("no region", -1, x.region(0, 0));
        Check.due("no weight", NO, x.weight(0));
    }

    private static void toldNumbers() {
        Check.says("told: what 0 .. 10. NO");
        Counted x = rich();
        for (int no : new int[] {-1, 11, 12, MIN, MAX}) Check.due("told " + no, NO, x.told(no));
        x = new Counted();
        for (int what = 0; what <= 10; what++) Check.due("at first " + what, 0, x.told(what));
        x.put(0, 3, 3, 1);
        x.put(0, 4, 4, 1);
        x.put(1, 4, 4, 1);
        Check.due("ROWS IN", 2, x.told(9));
        x.take(0);
        Check.due("ROWS IN", 1, x.told(9));
    }

    private static void flushing() {
        Check.says("All REGIONS go (no EVICTED, LEVEL stays): how many");
        Counted x = Helper.with("most 2");
        Check.due("none", 0, x.flush());
        for (int i = 0; i < 3; i++) x.query(0, 2 * i, 2 * i, 0, 0);
        Check.due("two", 2, x.flush());
        Check.due("none left", 0, x.flush());
        long[] due = {0, 0, 3, 30, 1, 0, 0, 0, 10000, 0, 0};
        for (int what = 0; what < due.length; what++) Check.due("told " + what, due[what], x.told(what));
        x.query(0, 9, 9, 9, 9);
        Check.due("the NUMBERS go on", "3:9-9,9-9*0@none=20000", Helper.regions(x));
    }
}
