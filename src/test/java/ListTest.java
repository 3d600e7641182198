/** Promises 31 to 38. */
public final class ListTest {
    private static final long NO = RangeAnswers.NO;

    public static void main(String[] args) {
        lists();
        sets();
        gets();
        moves();
        lays();
        judges();
        images();
        imageOfTheRest();
        Check.end();
    }

    private static void lists() {
        Check.promise(31);
        Counted x = new Counted();
        Check.due("no list", -1, x.list(-1, 3));
        Check.due("no list", -1, x.list(6, 99));
        Check.due("too long", -2, x.list(0, 61));
        Check.due("too long", -2, x.list(0, Integer.MAX_VALUE));
        Check.due("below", -14, x.list(0, -1));
        Check.due("below", -14, x.list(0, Integer.MIN_VALUE));
        Check.due("nothing yet", -11, x.set(0, 0, 1));
        Check.due("none long", 1, x.list(0, 0));
        Check.due("a row of none", -13, x.set(0, 0, 1));
        Check.due("the longest", 1, x.list(5, 60));
        Check.due("its last", 0, x.get(5, 59));
        x.set(5, 3, 7);
        Check.due("refused", -2, x.list(5, 61));
        Check.due("stays", 7, x.get(5, 3));
        Check.due("anew", 1, x.list(5, 4));
        Check.due("all 0", "0 0 0 0", Helper.list(x, 5));
        x.set(5, 0, 8);
        x.set(5, 2, 9);
        x.list(5, 2);
        x.list(5, 4);
        Check.due("all 0", "0 0 0 0", Helper.list(x, 5));
    }

    private static void sets() {
        Check.promise(32);
        Counted x = new Counted();
        Check.due("no list", -1, x.set(-1, 0, 1));
        Check.due("no list", -1, x.set(6, 0, 1));
        Check.due("nothing", -11, x.set(2, -1, 1));
        x.list(2, 3);
        Check.due("below", -13, x.set(2, -1, 1));
        Check.due("beyond", -13, x.set(2, 3, 1));
        Check.due("most", -13, x.set(2, Integer.MAX_VALUE, 1));
        Check.due("first", 1, x.set(2, 0, Long.MAX_VALUE));
        Check.due("last", 1, x.set(2, 2, -4));
        Check.due("the row", Long.MAX_VALUE + " 0 -4", Helper.list(x, 2));
    }

    private static void gets() {
        Check.promise(33);
        Counted x = new Counted();
        Check.due("no list", NO, x.get(-1, 0));
        Check.due("no list", NO, x.get(6, 0));
        Check.due("nothing", NO, x.get(0, 0));
        x.list(0, 2);
        x.set(0, 1, 8);
        Check.due("0", 0, x.get(0, 0));
        Check.due("1", 8, x.get(0, 1));
        Check.due("beyond", NO, x.get(0, 2));
        Check.due("below", NO, x.get(0, -1));
        x.set(0, 1, RangeAnswers.OVER);
        Check.due("any long", RangeAnswers.OVER, x.get(0, 1));
    }

    private static void moves() {
        Check.promise(34);
        Counted x = new Counted();
        x.list(0, 5);
        for (int i = 0; i < 5; i++) x.set(0, i, i + 1);
        Check.due("no list", -1, x.move(-1, 0, 0, 0, 0));
        Check.due("no list", -1, x.move(1, 0, 6, 0, 0));
        Check.due("nothing there", -11, x.move(0, 0, 1, 0, -1));
        Check.due("nothing here", -11, x.move(1, 0, 0, 0, 0));
        x.list(1, 3);
        int[][] beyond = {{0, 0, -1}, {-1, 0, 1}, {0, -1, 1}, {3, 0, 3}, {0, 1, 3}, {6, 0, 0}, {0, 4, 0},
            {1, 0, Integer.MAX_VALUE}, {Integer.MAX_VALUE, 0, 1}, {0, Integer.MAX_VALUE, Integer.MAX_VALUE},
            {-1, 0, 0}, {0, -1, 0}};
        for (int[] m : beyond) Check.due("beyond", -13, x.move(0, m[0], 1, m[1], m[2]));
        Check.due("untouched", "0 0 0", Helper.list(x, 1));
        Check.due("two", 2, x.move(0, 3, 1, 1, 2));
        Check.due("moved", "0 4 5", Helper.list(x, 1));
        Check.due("none at the ends", 0, x.move(0, 5, 1, 3, 0));
        Check.due("all", 3, x.move(1, 0, 0, 0, 3));
        Check.due("moved", "0 4 5 4 5", Helper.list(x, 0));
        for (int i = 0; i < 5; i++) x.set(0, i, i + 1);
        Check.due("up in itself", 4, x.move(0, 0, 0, 1, 4));
        Check.due("as they all were", "1 1 2 3 4", Helper.list(x, 0));
        Check.due("down in itself", 3, x.move(0, 2, 0, 1, 3));
        Check.due("as they all were", "1 2 3 4 4", Helper.list(x, 0));
    }

    private static Counted found(long... worths) {
        Counted x = new Counted();
        for (int i = 0; i < worths.length; i++) x.put(i, i, 0, worths[i]);
        x.query(0, 0, 31, 0, 31);
        return x;
    }

    private static void lays() {
        Check.promise(35);
        Counted x = found(7, -8, 9);
        Check.due("no list", -1, x.lay(-1, 0));
        Check.due("no list", -1, x.lay(6, 0));
        Check.due("nothing", -11, x.lay(0, 0));
        x.list(0, 4);
        Check.due("all", 3, x.lay(0, 0));
        Check.due("laid", "7 -8 9 0", Helper.list(x, 0));
        x.take(0);
        Check.due("as they were then", 3, x.lay(0, 1));
        Check.due("laid", "7 7 -8 9", Helper.list(x, 0));
        Check.due("not all", -13, x.lay(0, 2));
        Check.due("those with a place", "7 7 7 -8", Helper.list(x, 0));
        Check.due("below", -13, x.lay(0, -1));
        Check.due("beyond", -13, x.lay(0, 4));
        Check.due("most", -13, x.lay(0, Integer.MAX_VALUE));
        Check.due("none of them", "7 7 7 -8", Helper.list(x, 0));
        x.query(0, 20, 20, 20, 20);
        Check.due("nothing to lay", 0, x.lay(0, 0));
        Check.due("nothing to lay at the end", 0, x.lay(0, 4));
        x = new Counted();
        for (int r = 59; r >= 0; r--) x.put(r, 31, 31, r);
        Check.due("all the rows", 60, x.query(0, 31, 31, 31, 31));
        Check.due("too much to keep", 0, x.told(0));
        x.list(0, 60);
        Check.due("all the rows", 60, x.lay(0, 0));
        Check.due("the last", 59, x.get(0, 59));
        Check.due("one too many", -13, x.lay(0, 1));
        Check.due("the last", 58, x.get(0, 59));
        Check.due("judged", 159, x.judge(0, 1));
    }

    private static void judges() {
        Check.promise(36);
        Counted x = found(7, -8, 9);
        Check.due("no list", -1, x.judge(-1, 0));
        Check.due("no list", -1, x.judge(6, 0));
        Check.due("nothing", -11, x.judge(0, 0));
        x.list(0, 4);
        Check.due("the first", 0, x.judge(0, 0));
        x.lay(0, 1);
        Check.due("none", -5, x.judge(0, 1));
        x.set(0, 3, 10);
        Check.due("the last", 2, x.judge(0, 1));
        x.set(0, 2, 7);
        Check.due("the second", 1, x.judge(0, 1));
        x.list(0, 3);
        x.lay(0, 1);
        Check.due("the row ends", 102, x.judge(0, 1));
        Check.due("unlike ahead of the end", 0, x.judge(0, 2));
        Check.due("at the end", 100, x.judge(0, 3));
        Check.due("most", 100, x.judge(0, Integer.MAX_VALUE));
        Check.due("below", 100, x.judge(0, -1));
        x.query(0, 20, 20, 20, 20);
        Check.due("nothing to judge", -5, x.judge(0, 0));
    }

    private static Counted rich() {
        Counted x = Helper.with("merge off;most 3;setup 5");
        x.put(0, 1, 1, 4);
        x.put(1, 2, 2, 6);
        x.watch(1, 0, 9, 0, 9);
        x.watch(0, 0, 31, 0, 31);
        x.put(2, 3, 3, 1);
        x.query(0, 0, 9, 0, 9);
        x.query(1, 1, 2, 1, 2);
        x.query(0, 12, 13, 0, 9);
        x.query(0, 22, 23, 0, 9);
        x.query(0, 0, 2, 0, 30);
        x.trace(0, 5, 0, 5);
        return x;
    }

    private static void images() {
        Check.promise(37);
        Counted x = rich();
        Check.due("image", 3, x.image());
        Check.due("nothing changes", Helper.imaged(rich()), Helper.imaged(x));
        Check.promise(38);
        Check.due("none yet", -3, new Counted().undo());
        x = rich();
        x.image();
        for (int turn = 0; turn < 2; turn++) {
            long[] told = new long[10];
            for (int what = 0; what < 10; what++) told[what] = x.told(what);
            disturb(x);
            for (int what = 0; what < 10; what++) {
                Check.due("told " + what + " stays", 0, told[what] == x.told(what) ? 1 : 0);
            }
            Check.due("undo", 3, x.undo());
        }
        Check.due("all as it was", Helper.imaged(rich()), Helper.imaged(x));
        x = rich();
        x.image();
        disturb(x);
        Check.due("undo", 3, x.undo());
        Check.due("undo twice", 3, x.undo());
        x.flush();
        x.query(0, 30, 30, 30, 30);
        Counted y = rich();
        y.flush();
        y.query(0, 30, 30, 30, 30);
        Check.due("the next number", Helper.regions(y), Helper.regions(x));
        Check.due("an image later on", 1, x.image());
        x.flush();
        Check.due("undo", 1, x.undo());
        Check.due("the latest image", Helper.regions(y), Helper.regions(x));
    }

    /** Changes all that the image has. */
    private static void disturb(Counted x) {
        x.put(0, 9, 9, 5);
        x.take(1);
        x.put(30, 9, 31, 5);
        x.put(31, 9, 9, 5);
        x.query(0, 24, 25, 0, 31);
        x.query(0, 24, 25, 0, 0);
        x.query(0, 26, 27, 0, 0);
        x.query(0, 28, 28, 0, 0);
        x.query(0, 30, 30, 1, 1);
        Helper.set(x, "setup 9;room 9;most 2;writes drop;merge on;shrink off;big 99");
        x.query(0, 10, 10, 10, 10);
        x.query(0, 10, 10, 11, 11);
        x.put(3, 10, 10, 5);
        Helper.run(x, "sum 0-9 *;sum 9 9 if w>3");
        x.trace(9, 9, 9, 9);
        x.trace(20, 31, 9, 9);
        x.watch(0, 0, 31, 0, 31);
        x.flush();
    }

    private static void imageOfTheRest() {
        Check.promise(38);
        Counted x = found(3, 4);
        x.trace(0, 3, 0, 3);
        x.list(0, 2);
        x.image();
        x.trace(-1, 0, 0, 0);
        x.put(0, 0, 0, 5);
        x.put(2, 2, 0, 6);
        x.query(0, 0, 31, 0, 31);
        x.lay(0, 0);
        x.set(0, 0, 9);
        Helper.feed(x, "room 7");
        x.explain(0, 0, 0, 0);
        x.probe(0, 0, 0, 0);
        Check.due("undo", 1, x.undo());
        Check.due("the trace", 1, x.again(40, 1));
        Check.due("lists stay", 9, x.get(0, 0));
        Check.due("the find's worths", 2, x.lay(0, 0));
        Check.due("laid", "3 4", Helper.list(x, 0));
        Check.due("the paper stays", 'h', x.paper(0));
        Check.due("the pieces stay", 0, x.piece(0, 1));
        Check.due("the tape stays", 6, x.clear());
    }
}
