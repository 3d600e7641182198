/** Promises 1 to 5. */
public final class StoreTest {
    private static final long NO = RangeAnswers.NO;

    public static void main(String[] args) {
        newObject();
        putRefuses();
        putPatches();
        putDrops();
        putCuts();
        putTrims();
        takes();
        rows();
        worths();
        Check.end();
    }

    private static void newObject() {
        Check.promise(1);
        Counted x = new Counted();
        for (int i = 0; i <= 10; i++) Check.due("told " + i, 0, x.told(i));
        for (int r = 0; r < 60; r++) Check.due("worth " + r, NO, x.worth(r));
        Check.due("region", -1, x.region(0, 0));
        Check.due("find", 0, x.find(-1));
        Check.due("answer", NO, x.answer(0));
        Check.due("piece", -1, x.piece(0, 0));
        Check.due("paper", -1, x.paper(0));
        Check.due("clear", 0, x.clear());
        Check.due("changes", -1, x.changes(0));
        Check.due("get", NO, x.get(0, 0));
        Check.due("again", 0, x.again(40, 1));
        Check.due("undo", -3, x.undo());
        int[] first = {10, 40, 12, 0, 1, 1, 1024};
        for (int i = 0; i < first.length; i++) Check.due("setting " + i, first[i], x.setting(i));
        new Counted().put(0, 0, 0, 1);
        Check.due("a row of another object", 0, x.told(9));
        Check.due("NONE", -1, RangeAnswers.NONE);
        Check.due("BAD", -2, RangeAnswers.BAD);
        Check.due("STATE", -3, RangeAnswers.STATE);
        Check.due("FULL", -4, RangeAnswers.FULL);
        Check.due("NO", Long.MIN_VALUE, RangeAnswers.NO);
        Check.due("OVER", Long.MIN_VALUE + 1, RangeAnswers.OVER);
    }

    private static void putRefuses() {
        Check.promise(2);
        Counted x = new Counted();
        int[][] none = {{-1, 0, 0}, {60, 0, 0}, {60, 32, -1}, {Integer.MIN_VALUE, 0, 0}, {Integer.MAX_VALUE, 0, 0}};
        for (int[] p : none) Check.due("put of row " + p[0], -1, x.put(p[0], p[1], p[2], NO));
        int[][] bad = {{0, -1, 0}, {0, 32, 0}, {0, 0, -1}, {0, 0, 32}, {59, Integer.MAX_VALUE, 0}};
        for (int[] p : bad) Check.due("put at " + p[1] + " " + p[2], -2, x.put(p[0], p[1], p[2], 1));
        Check.due("worth NO", -2, x.put(0, 0, 0, NO));
        Check.due("worth OVER", -2, x.put(0, 0, 0, RangeAnswers.OVER));
        Check.due("rows IN", 0, x.told(9));
        Check.due("least worth", 0, x.put(0, 0, 0, Long.MIN_VALUE + 2));
        Check.due("most worth", 0, x.put(59, 31, 31, Long.MAX_VALUE));
        Check.due("worth 0", Long.MIN_VALUE + 2, x.worth(0));
        Check.due("worth 59", Long.MAX_VALUE, x.worth(59));
        Check.due("rows IN", 2, x.told(9));
        Check.due("refused", -2, x.put(0, 5, 32, 7));
        Check.due("row 0 stays", 0, x.row(0, 0));
        Check.due("put again", 0, x.put(0, 5, 6, 7));
        Check.due("row 0", 5, x.row(0, 0));
        Check.due("row 0", 6, x.row(0, 1));
        Check.due("rows IN", 2, x.told(9));
    }

    private static void putPatches() {
        Check.promise(2);
        Counted x = new Counted();
        x.query(0, 0, 9, 0, 9);
        Check.due("put into a region", 1, x.put(0, 5, 5, 1));
        Check.due("the region", "0:0-9,0-9*0@none=10000", Helper.regions(x));
        Check.due("SIZE", 2, x.region(0, 10));
        Check.due("COST", 11, x.region(0, 11));
        Check.due("TOUCHED", 1, x.told(7));
        x.put(0, 5, 5, 2);
        Check.due("TOUCHED, two writes", 3, x.told(7));
        x.put(0, 10, 5, 2);
        Check.due("TOUCHED, out of it", 4, x.told(7));
        x.put(0, 11, 5, 2);
        Check.due("TOUCHED, beside it", 4, x.told(7));
        x.put(70, 1, 1, 2);
        Check.due("TOUCHED, refused", 4, x.told(7));
    }

    private static void putDrops() {
        Check.promise(2);
        Counted x = Helper.with("writes drop;merge off");
        x.put(0, 2, 2, 5);
        Helper.load(x, "0-4,0-4;10-14,0-4;20-24,0-4");
        Check.due("out of one into another", 1, x.put(0, 12, 2, 5));
        Check.due("what stays", "20-24,0-4", Helper.boxes(x));
        Check.due("TOUCHED", 2, x.told(7));
        Check.due("EVICTED", 0, x.told(4));
        Check.due("no region there", 1, x.put(1, 2, 2, 5));
        Check.due("TOUCHED", 2, x.told(7));
        Check.due("one that is new", 0, x.put(2, 24, 4, 5));
    }

    private static void putCuts() {
        Check.promise(2);
        Counted x = Helper.with("writes cut");
        x.query(0, 0, 9, 0, 9);
        x.query(0, 2, 7, 2, 7);
        Check.due("in the midst", 4, x.put(0, 4, 5, 1));
        Check.due("all four", "1:0-9,0-4*1@2-7,2-4=20000 2:0-9,6-9*1@2-7,6-7=20000 "
            + "3:0-3,5-5*1@2-3,5-5=20000 4:5-9,5-5*1@5-7,5-5=20000", Helper.regions(x));
        Check.due("at a corner", 5, x.put(1, 0, 0, 1));
        Check.due("two of it come last", "2:0-9,6-9*1@2-7,6-7=20000 3:0-3,5-5*1@2-3,5-5=20000 "
            + "4:5-9,5-5*1@5-7,5-5=20000 5:0-9,1-4*1@2-7,2-4=20000 6:1-9,0-0*1@none=20000", Helper.regions(x));
        Check.due("TOUCHED", 2, x.told(7));
        x = Helper.with("writes cut;room 99");
        x.put(0, 3, 3, 1);
        x.query(0, 3, 3, 3, 3);
        x.query(0, 8, 9, 8, 8);
        Check.due("a region of one place", 1, x.put(0, 3, 3, 2));
        Check.due("out of none, into the right end", 1, x.put(0, 9, 8, 2));
        Check.due("the left end", "2:8-8,8-8*0@none=10000", Helper.regions(x));
        Check.due("TOUCHED", 2, x.told(7));
    }

    private static void putTrims() {
        Check.promise(2);
        Counted x = Helper.with("room 3");
        x.query(0, 0, 9, 0, 9);
        x.put(0, 1, 1, 1);
        Check.due("SIZES just the room", 1, x.put(1, 1, 1, 1));
        Check.due("above the room", 0, x.put(2, 1, 1, 1));
        Check.due("EVICTED", 1, x.told(4));
        Check.due("LEVEL", 10000, x.told(8));
        x = Helper.with("room 3");
        x.query(0, 0, 9, 0, 9);
        for (int i = 0; i < 3; i++) x.query(0, 0, 4, 0, 4);
        x.put(0, 8, 8, 1);
        x.put(1, 8, 8, 1);
        Check.due("it is shrunk", 1, x.put(2, 1, 1, 1));
        Check.due("to its HOT", "0:0-4,0-4*1@none=51000", Helper.regions(x));
        Check.due("SHRUNK", 1, x.told(5));
        Check.due("EVICTED", 0, x.told(4));
        Check.due("LEVEL", 40000, x.told(8));
        x = Helper.with("most 2;writes cut");
        x.query(0, 0, 9, 0, 9);
        Check.due("four by a cut", 2, x.put(0, 4, 4, 1));
        Check.due("the least numbers go", "3:0-3,4-4*0@none=10000 4:5-9,4-4*0@none=10000", Helper.regions(x));
        Check.due("EVICTED", 2, x.told(4));
    }

    private static void takes() {
        Check.promise(3);
        Counted x = new Counted();
        Check.due("take -1", -1, x.take(-1));
        Check.due("take 60", -1, x.take(60));
        Check.due("take of what is OUT", -3, x.take(0));
        x.put(0, 3, 3, 1);
        x.put(1, 3, 3, 2);
        x.query(0, 0, 9, 0, 9);
        Check.due("take", 1, x.take(0));
        Check.due("patched", 1, x.told(7));
        Check.due("worth", NO, x.worth(0));
        Check.due("rows IN", 1, x.told(9));
        Check.due("take twice", -3, x.take(0));
        Check.due("TOUCHED stays", 1, x.told(7));
        Check.due("the region", "0:0-9,0-9*0@none=4000", Helper.regions(x));
        Helper.set(x, "writes cut");
        Check.due("a cut", 4, x.take(1));
        Check.due("its parts", "0-9,0-2 0-9,4-9 0-2,3-3 4-9,3-3", Helper.boxes(x));
        Helper.set(x, "writes drop");
        x.put(2, 20, 20, 1);
        x.query(0, 20, 20, 20, 20);
        Check.due("a drop", 4, x.take(2));
        Check.due("TOUCHED", 3, x.told(7));
        x = Helper.with("most 2;writes cut");
        x.put(0, 4, 4, 1);
        x.query(0, 0, 9, 0, 9);
        Check.due("trimmed", 2, x.take(0));
    }

    private static void rows() {
        Check.promise(4);
        Counted x = new Counted();
        x.put(7, 3, 31, 1);
        Check.due("x", 3, x.row(7, 0));
        Check.due("y", 31, x.row(7, 1));
        Check.due("no what", -1, x.row(7, 2));
        Check.due("no what", -1, x.row(7, -1));
        Check.due("no row", -1, x.row(60, 0));
        Check.due("no row", -1, x.row(-1, 0));
        Check.due("OUT", -3, x.row(8, 0));
        Check.due("OUT, no what", -1, x.row(8, 2));
        x.take(7);
        Check.due("taken", -3, x.row(7, 1));
    }

    private static void worths() {
        Check.promise(5);
        Counted x = new Counted();
        x.put(0, 3, 31, -9);
        x.put(59, 3, 31, 8);
        Check.due("worth 0", -9, x.worth(0));
        Check.due("worth 59", 8, x.worth(59));
        Check.due("OUT", NO, x.worth(1));
        Check.due("-1", NO, x.worth(-1));
        Check.due("60", NO, x.worth(60));
        Check.due("64", NO, x.worth(64));
        x.put(0, 3, 31, 0);
        Check.due("another worth", 0, x.worth(0));
    }
}
