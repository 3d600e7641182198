/** Promises 25 to 30. */
public final class TraceTest {
    private static final long NO = RangeAnswers.NO;

    public static void main(String[] args) {
        traces();
        agains();
        leasts();
        watches();
        values();
        changes();
        Check.end();
    }

    private static void traces() {
        Check.promise(25);
        Counted x = new Counted();
        Check.due("first", 1, x.trace(0, 31, 0, 31));
        int[][] bad = {{-2, 0, 0, 0}, {0, 32, 0, 0}, {0, 0, -1, 0}, {0, 0, 0, 32}, {1, 0, 0, 0}, {0, 0, 1, 0}};
        for (int[] b : bad) Check.due("no box", -2, x.trace(b[0], b[1], b[2], b[3]));
        for (int i = 2; i <= 10; i++) Check.due("next", i, x.trace(i, i, i, i));
        Check.due("full", -4, x.trace(0, 0, 0, 0));
        Check.due("BAD ahead of FULL", -2, x.trace(0, 0, 1, 0));
        Check.due("ten were queried", 1, x.again(40, 1));
        Check.due("emptied", 0, x.trace(-1, 99, -7, 5));
        Check.due("none", 0, x.again(40, 1));
        Check.due("first again", 1, x.trace(3, 3, 3, 3));
    }

    /** Rows 0 .. 3 at (1,1), (2,2), (3,3), (20,20). */
    private static Counted traced() {
        Counted x = new Counted();
        for (int r = 0; r < 3; r++) x.put(r, r + 1, r + 1, 1);
        x.put(3, 20, 20, 1);
        x.trace(0, 4, 0, 4);
        x.trace(2, 2, 2, 2);
        x.trace(20, 20, 20, 20);
        x.trace(0, 4, 0, 4);
        x.trace(5, 6, 0, 4);
        return x;
    }

    private static void agains() {
        Check.promise(26);
        Counted x = traced();
        Check.due("no what", -1, x.again(40, 6));
        Check.due("no what", -1, x.again(0, -1));
        Check.due("room 0", -2, x.again(0, 0));
        Check.due("room 100", -2, x.again(100, 0));
        long[] wide = {13 + 11 + 10, 3, 0, 0, 1, 2};
        for (int what = 0; what < 6; what++) Check.due("wide " + what, wide[what], x.again(99, what));
        // room 4: (20,20) makes 6: 20,20 goes (5500 against 2 * 13000 / 4); then 0-4 again is had; 5-6 merges
        long[] four = {13 + 11 + 10, 3, 1, 0, 1, 1};
        for (int what = 0; what < 6; what++) Check.due("four " + what, four[what], x.again(4, what));
        // room 3, room 1: each 0-4 is given up at once, only 5-6 stays
        long[] three = {13 + 11 + 11 + 13 + 10, 5, 4, 0, 0, 1};
        for (int what = 0; what < 6; what++) {
            Check.due("three " + what, three[what], x.again(3, what));
            Check.due("one " + what, three[what], x.again(1, what));
        }
        for (int what = 0; what < 9; what++) Check.due("nothing stays " + what, 0, x.told(what));
        Check.due("ROOM stays", 40, x.setting(1));
        Helper.set(x, "setup 0;merge off;big 1");
        long[] other = {3 + 1 + 1 + 2 + 0, 8, 0, 0, 0, 2};
        for (int what = 0; what < 6; what++) Check.due("by settings " + what, other[what], x.again(40, what));
        Helper.load(x, "0-9,0-9");
        Check.due("from no regions", 7, x.again(40, 0));
        x.take(3);
        Check.due("by the rows as they are", 6, x.again(40, 0));
        Helper.set(x, "setup 10;big 1024");
        x.trace(-1, 0, 0, 0);
        x.trace(0, 4, 0, 4);
        x.trace(2, 2, 2, 2);
        x.trace(30, 30, 30, 30);
        long[] shrunk = {13 + 10, 2, 0, 1, 0, 2};
        for (int what = 0; what < 6; what++) Check.due("shrunk " + what, shrunk[what], x.again(4, what));
    }

    private static void leasts() {
        Check.promise(27);
        Counted x = new Counted();
        Check.due("no trace", 1, x.least(0));
        Check.due("no trace", -5, x.least(-1));
        x = traced();
        Check.due("any room", 1, x.least(58));
        Check.due("most", 1, x.least(Integer.MAX_VALUE));
        Check.due("room for the three", 4, x.least(34));
        Check.due("never", -5, x.least(33));
        Check.due("least", -5, x.least(Integer.MIN_VALUE));
        Check.due("nothing stays", 0, x.told(2));
    }

    private static void watches() {
        Check.promise(28);
        Counted x = new Counted();
        Check.due("no measure", -1, x.watch(-1, 0, 0, 0, 0));
        Check.due("no measure", -1, x.watch(7, 5, 0, 0, 0));
        int[][] bad = {{-1, 0, 0, 0}, {0, 32, 0, 0}, {0, 0, -1, 0}, {0, 0, 0, 32}, {1, 0, 0, 0}, {0, 0, 1, 0}};
        for (int[] b : bad) Check.due("no box", -2, x.watch(0, b[0], b[1], b[2], b[3]));
        for (int i = 0; i < 6; i++) Check.due("watch", i, x.watch(6 - i, 0, 31, 0, 31));
        Check.due("full", -4, x.watch(0, 0, 0, 0, 0));
        Check.due("BAD ahead of FULL", -2, x.watch(0, 1, 0, 0, 0));
        Check.due("NONE ahead of FULL", -1, x.watch(9, 1, 0, 0, 0));
        Check.due("nothing is asked", 0, x.told(2));
    }

    private static void values() {
        Check.promise(29);
        Counted x = new Counted();
        Check.due("none", NO, x.value(0));
        for (int m = 0; m < 5; m++) x.watch(m, 0, 9, 0, 9);
        long[] empty = {0, 0, NO, NO, NO};
        for (int m = 0; m < 5; m++) Check.due("empty " + m, empty[m], x.value(m));
        x.put(0, 9, 9, 4);
        x.put(1, 0, 0, -1);
        x.put(2, 10, 0, 50);
        long[] two = {2, 3, -1, 4, 1};
        for (int m = 0; m < 5; m++) Check.due("two " + m, two[m], x.value(m));
        x.put(3, 0, 0, Long.MIN_VALUE + 2);
        x.put(4, 0, 0, -2);
        Check.due("sum below", RangeAnswers.OVER, x.value(1));
        x.take(3);
        x.take(4);
        Check.due("now", 3, x.value(1));
        Check.due("beyond", NO, x.value(5));
        Check.due("below", NO, x.value(-1));
        Check.due("nothing is asked", 0, x.told(2) + x.told(3) + x.told(0));
    }

    private static void changes() {
        Check.promise(30);
        Counted x = new Counted();
        Check.due("none", -1, x.changes(0));
        x.put(0, 1, 1, 4);
        x.watch(1, 0, 9, 0, 9);
        x.watch(0, 0, 9, 0, 9);
        x.watch(3, 0, 9, 0, 9);
        Check.due("new", 0, x.changes(0));
        x.put(1, 2, 2, 3);
        x.put(1, 2, 2, 2);
        x.put(1, 3, 3, 2);
        x.put(2, 4, 4, 0);
        x.put(3, 20, 20, 9);
        Check.due("the sum", 2, x.changes(0));
        Check.due("the count", 2, x.changes(1));
        Check.due("the most", 0, x.changes(2));
        x.take(3);
        x.take(0);
        x.take(0);
        x.put(0, 40, 1, 4);
        Check.due("the sum", 3, x.changes(0));
        Check.due("the count", 3, x.changes(1));
        Check.due("the most", 1, x.changes(2));
        x.query(0, 0, 9, 0, 9);
        Check.due("by put and take alone", 3, x.changes(0));
        x.put(9, 5, 5, 100);
        x.take(9);
        Check.due("there and back", 5, x.changes(0));
        x.put(2, 5, 5, 0);
        Check.due("moved within the box", 5, x.changes(0));
        Check.due("beyond", -1, x.changes(3));
        Check.due("below", -1, x.changes(-1));
        x = new Counted();
        x.image();
        x.watch(0, 0, 9, 0, 9);
        x.put(0, 1, 1, 4);
        x.undo();
        Check.due("a new one behind undo()", 0, x.watch(0, 0, 9, 0, 9));
        Check.due("has no changes", 0, x.changes(0));
    }
}
