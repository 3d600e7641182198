/** Promises 16 to 24. */
public final class QueryTest {
    private static final long NO = RangeAnswers.NO, OVER = RangeAnswers.OVER, MAX = Long.MAX_VALUE;

    public static void main(String[] args) {
        queryRefuses();
        measures();
        measuresAtTheEdges();
        regionsComeOfQueries();
        queriesMerge();
        hitsEnd();
        queriesTrim();
        finds();
        probes();
        manyPieces();
        regions();
        weights();
        tolds();
        flushes();
        keeps();
        Check.end();
    }

    private static void queryRefuses() {
        Check.promise(16);
        Counted x = new Counted();
        x.put(0, 1, 1, 1);
        x.query(0, 0, 3, 0, 3);
        int[][] none = {{-1, 0, 0, 0, 0}, {7, 0, 0, 0, 0}, {0, -1, 0, 0, 0}, {0, 0, 32, 0, 0}, {0, 0, 0, -1, 0},
            {0, 0, 0, 0, 32}, {0, 2, 1, 0, 0}, {0, 0, 0, 2, 1}, {Integer.MAX_VALUE, 0, 0, 0, 0}};
        for (int[] q : none) Check.due("query", NO, x.query(q[0], q[1], q[2], q[3], q[4]));
        Check.due("no ask", 1, x.told(2));
        Check.due("the find stays", 1, x.find(-1));
        Check.due("the whole grid", 1, x.query(0, 0, 31, 0, 31));
        Check.due("one place", 0, x.query(0, 31, 31, 31, 31));
    }

    private static String all(Counted x) {
        StringBuilder s = new StringBuilder();
        for (int m = 0; m <= 6; m++) {
            long v = x.query(m, 0, 9, 0, 9);
            s.append(m > 0 ? " " : "").append(v == NO ? "NO" : v == OVER ? "OVER" : "" + v);
        }
        return s.toString();
    }

    private static Counted withWorths(long... worths) {
        Counted x = Helper.with("room 99");
        for (int i = 0; i < worths.length; i++) x.put(i, i, 0, worths[i]);
        return x;
    }

    private static void measures() {
        Check.promise(16);
        Check.due("no rows", "0 0 NO NO NO NO 0", all(withWorths()));
        Check.due("one", "1 -5 -5 -5 -5 0 1", all(withWorths(-5)));
        Check.due("four", "4 9 -2 7 2 9 3", all(withWorths(2, 7, 2, -2)));
        Check.due("below 0", "3 -4 -3 1 -2 4 3", all(withWorths(1, -2, -3)));
        Counted x = withWorths(1, 2, 4);
        x.put(3, 10, 0, 8);
        x.put(4, 0, 10, 8);
        Check.due("beside the box", "3 7 1 4 2 3 3", all(x));
        x.take(1);
        Check.due("taken", "2 5 1 4 2 3 2", all(x));
    }

    private static void measuresAtTheEdges() {
        Check.promise(16);
        Check.due("over", "2 OVER 1 " + MAX + " OVER " + (MAX - 1) + " 2", all(withWorths(MAX, 1)));
        Check.due("over on the way", "3 OVER -5 " + MAX + " OVER OVER 3", all(withWorths(MAX, 4, -5)));
        Check.due("not over in order", "3 " + (MAX - 1) + " -5 " + MAX + " " + (MAX - 1) / 3 + " OVER 3",
            all(withWorths(MAX, -5, 4)));
        Check.due("below", "2 OVER " + (-MAX + 1) + " -3 OVER " + (MAX - 4) + " 2", all(withWorths(-MAX + 1, -3)));
        Check.due("span of MAX", MAX, withWorths(MAX, 0).query(5, 0, 9, 0, 9));
        Check.due("span above MAX", OVER, withWorths(MAX, -1).query(5, 0, 9, 0, 9));
        Check.due("a sum that is as OVER", OVER, withWorths(-MAX + 1, -1).query(1, 0, 9, 0, 9));
        Check.due("its mean", -4611686018427387904L, withWorths(-MAX + 1, -1).query(4, 0, 9, 0, 9));
        Check.due("the least sum", Long.MIN_VALUE, withWorths(-MAX + 1, -2).query(1, 0, 9, 0, 9));
        Check.due("its mean", Long.MIN_VALUE / 2, withWorths(-MAX + 1, -2).query(4, 0, 9, 0, 9));
        Counted x = new Counted();
        x.put(5, 0, 0, MAX);
        x.put(1, 1, 0, 4);
        x.put(0, 0, 1, -5);
        Check.due("x, then y", MAX - 1, x.query(1, 0, 9, 0, 9));
        x.put(0, 0, 0, 4);
        Check.due("then the number", OVER, x.query(1, 0, 9, 0, 9));
    }

    private static void regionsComeOfQueries() {
        Check.promise(16);
        Counted x = Helper.with("merge off");
        x.put(0, 6, 6, 1);
        x.query(0, 4, 7, 4, 7);
        Check.due("the first", "0:4-7,4-7*0@none=5500", Helper.regions(x));
        x.query(0, 2, 9, 3, 9);
        Check.due("all around", "0:4-7,4-7*1@4-7,4-7=11000 1:2-9,3-3*0@none=10000 2:2-9,8-9*0@none=10000 "
            + "3:2-3,4-7*0@none=10000 4:8-9,4-7*0@none=10000", Helper.regions(x));
        Check.due("ASKS", 5, x.told(2));
        Check.due("PAID", 51, x.told(3));
        x.query(0, 5, 6, 2, 5);
        x.query(0, 7, 7, 6, 6);
        Check.due("hits of two", "0:4-7,4-7*3@4-7,4-7=22000 1:2-9,3-3*1@5-6,3-3=20000 2:2-9,8-9*0@none=10000 "
            + "3:2-3,4-7*0@none=10000 4:8-9,4-7*0@none=10000 5:5-6,2-2*0@none=10000", Helper.regions(x));
        x = Helper.with("merge off");
        x.query(0, 0, 9, 0, 9);
        x.query(0, 1, 2, 3, 4);
        x.query(0, 2, 5, 8, 12);
        Check.due("HOT around both", "0:0-9,0-9*2@1-5,3-9=30000 1:2-5,10-12*0@none=10000", Helper.regions(x));
        x = Helper.with("big 4");
        Check.due("above BIG", 0, x.query(0, 0, 4, 0, 0));
        Check.due("asked", 1, x.told(2));
        Check.due("not kept", 0, x.told(0));
        x.query(0, 0, 1, 0, 1);
        Check.due("just BIG", "0-1,0-1", Helper.boxes(x));
        x.query(0, 0, 4, 0, 1);
        Check.due("piece by piece", "0-1,0-1", Helper.boxes(x));
        x.query(0, 0, 3, 0, 1);
        Check.due("piece by piece", "0-3,0-1", Helper.boxes(x));
        Check.due("ASKS", 4, x.told(2));
    }

    private static void queriesMerge() {
        Check.promise(16);
        Counted x = new Counted();
        Helper.load(x, "1-1,1-1;1-1,2-2;2-2,1-1;0-0,5-5");
        x.query(0, 31, 31, 31, 31);
        Check.due("the earliest pair", "1-1,1-2 2-2,1-1 0-0,5-5 31-31,31-31", Helper.boxes(x));
        Check.due("MERGED", 1, x.told(6));
        x.query(0, 2, 2, 2, 2);
        Check.due("one by one", "1-2,1-2 0-0,5-5 31-31,31-31", Helper.boxes(x));
        Check.due("MERGED", 3, x.told(6));
        Check.due("the first keeps its number", 0, x.region(0, 4));
        x = new Counted();
        Helper.load(x, "0-0,0-0;4-4,0-1;1-1,0-0;4-4,2-2;5-5,0-2;8-8,8-8;9-9,9-9");
        x.query(0, 20, 20, 20, 20);
        Check.due("two pairs and a third", "0-1,0-0 4-5,0-2 8-8,8-8 9-9,9-9 20-20,20-20", Helper.boxes(x));
        x = new Counted();
        x.put(0, 0, 0, 1);
        x.query(0, 0, 1, 0, 1);
        x.query(0, 1, 1, 1, 1);
        x.query(0, 0, 0, 1, 1);
        x.query(0, 0, 1, 0, 3);
        Check.due("HITS, HOT, WEIGHT", "0:0-1,0-3*3@0-1,0-1=22000", Helper.regions(x));
        x = Helper.with("merge off");
        x.query(0, 0, 1, 0, 1);
        x.query(0, 2, 3, 0, 1);
        x.query(0, 3, 3, 1, 1);
        Helper.set(x, "merge on");
        Check.due("no merging by settings", 2, x.told(0));
        x.query(0, 31, 31, 0, 0);
        Check.due("HOT of the other", "0:0-3,0-1*1@3-3,1-1=20000 2:31-31,0-0*0@none=10000", Helper.regions(x));
    }

    private static void hitsEnd() {
        Check.promise(16);
        Counted x = Helper.with("writes cut;room 99");
        x.query(0, 0, 2, 0, 2);
        int[] due = {4, 20, 84, 340, 1364, 5460, 9999};
        for (int hits : due) {
            x.put(0, 1, 1, 1);
            x.query(0, 0, 2, 0, 2);
            Check.due("one region", "0-2,0-2", Helper.boxes(x));
            Check.due("HITS of four and none", hits, x.region(0, 5));
        }
        x.query(0, 0, 2, 0, 2);
        Check.due("no more HITS", 9999, x.region(0, 5));
        Check.due("WEIGHT", 1000L * 11 * 10000 / 2, x.weight(0));
    }

    private static void queriesTrim() {
        Check.promise(16);
        Counted x = Helper.with("merge off;most 2");
        x.query(0, 0, 3, 0, 3);
        x.query(0, 1, 1, 1, 1);
        x.query(0, 8, 9, 0, 0);
        x.query(0, 12, 13, 0, 0);
        Check.due("the least WEIGHT goes", "0:0-3,0-3*1@1-1,1-1=20000 2:12-13,0-0*0@none=10000", Helper.regions(x));
        Check.due("LEVEL", 10000, x.told(8));
        x.query(0, 16, 17, 0, 0);
        Check.due("LEVEL is in the new one", "0:0-3,0-3*1@1-1,1-1=20000 3:16-17,0-0*0@none=20000", Helper.regions(x));
        x.query(0, 20, 21, 0, 0);
        Check.due("shrunk, then the next", "0:1-1,1-1*0@none=30000 4:20-21,0-0*0@none=20000", Helper.regions(x));
        Check.due("SHRUNK", 1, x.told(5));
        Check.due("EVICTED", 3, x.told(4));
        Check.due("LEVEL", 20000, x.told(8));
        x = Helper.with("room 2");
        x.put(0, 1, 1, 1);
        x.query(0, 0, 9, 0, 9);
        for (int i = 0; i < 5; i++) x.query(0, 0, 3, 0, 3);
        x.put(1, 5, 5, 1);
        Check.due("5 HITS halved", "0:0-3,0-3*2@none=" + (11000 * 6 / 2 + 11000 * 3 / 2), Helper.regions(x));
        x.query(0, 0, 2, 0, 2);
        x.put(2, 2, 2, 1);
        Check.due("shrunk, and then it goes", 0, x.told(0));
        Check.due("SHRUNK", 2, x.told(5));
        Check.due("EVICTED", 1, x.told(4));
        x = Helper.with("merge off;most 1;shrink off");
        x.query(0, 0, 3, 0, 3);
        x.query(0, 1, 1, 1, 1);
        x.query(0, 8, 9, 0, 0);
        x.query(0, 18, 19, 0, 0);
        x.query(0, 28, 29, 0, 0);
        Check.due("no shrinking", "3:28-29,0-0*0@none=30000", Helper.regions(x));
        Check.due("SHRUNK", 0, x.told(5));
        x = Helper.with("merge off;most 1");
        x.query(0, 0, 3, 0, 3);
        x.query(0, 0, 3, 0, 3);
        for (int i = 0; i < 3; i++) x.query(0, 8, 9, 0, 0);
        Check.due("HOT as great as its BOX", 0, x.told(5));
        x = Helper.with("room 2");
        x.put(0, 5, 5, 1);
        x.put(1, 5, 5, 3);
        Check.due("the answer of what is not kept", 4, x.query(1, 5, 5, 5, 5));
        Check.due("regions", 0, x.told(0));
        Check.due("EVICTED", 1, x.told(4));
        Check.due("found", 2, x.find(-1));
    }

    private static void finds() {
        Check.promise(17);
        Counted x = new Counted();
        Check.due("none yet", 0, x.find(-1));
        Check.due("none yet", -1, x.find(0));
        x.put(9, 2, 2, 1);
        x.put(3, 2, 2, 1);
        x.put(4, 2, 1, 1);
        x.put(0, 5, 0, 1);
        x.put(1, 1, 9, 1);
        x.put(2, 10, 9, 1);
        x.query(6, 0, 9, 0, 9);
        Check.due("by x, y, number", "1 4 3 9 0", Helper.found(x));
        Check.due("how many", 5, x.find(-1));
        Check.due("beyond", -1, x.find(5));
        Check.due("below", -1, x.find(-2));
        Check.due("most", -1, x.find(Integer.MAX_VALUE));
        x.take(4);
        x.put(1, 9, 9, 9);
        Check.due("as they were then", "1 4 3 9 0", Helper.found(x));
        Helper.run(x, "sum * *;sum * * if r=3");
        Check.due("of the latest", "3", Helper.found(x));
        x.probe(0, 31, 0, 31);
        x.trace(0, 31, 0, 31);
        x.again(9, 0);
        x.watch(0, 0, 31, 0, 31);
        x.value(0);
        Check.due("not by what is asked", "3", Helper.found(x));
    }

    private static void probes() {
        Check.promise(18);
        Counted x = Helper.with("merge off");
        Check.due("all is missing", 1, x.probe(0, 31, 0, 31));
        Check.due("the box", "-5:0-31,0-31", Helper.pieces(x));
        Helper.load(x, "2-3,2-3;9-9,9-9;5-8,2-8");
        Check.due("two and three", 5, x.probe(3, 6, 3, 10));
        Check.due("in order", "0:3-3,3-3 2:5-6,3-8 -5:3-6,9-10 -5:3-4,4-8 -5:4-4,3-3", Helper.pieces(x));
        Check.due("covered", 1, x.probe(9, 9, 9, 9));
        Check.due("one", "1:9-9,9-9", Helper.pieces(x));
        Check.due("no ask", 3, x.told(2));
        Check.due("no hit", 0, x.region(0, 5));
        int[][] bad = {{-1, 0, 0, 0}, {0, 32, 0, 0}, {0, 0, -1, 0}, {0, 0, 0, 32}, {1, 0, 0, 0}, {0, 0, 1, 0}};
        for (int[] b : bad) Check.due("no box", -2, x.probe(b[0], b[1], b[2], b[3]));
        Check.due("the pieces stay", "1:9-9,9-9", Helper.pieces(x));
        Check.promise(19);
        x = new Counted();
        Check.due("none yet", -1, x.piece(0, 0));
        Helper.load(x, "1-2,3-4");
        x.probe(0, 3, 4, 5);
        int[][] due = {{1, 2, 4, 4, 0}, {0, 3, 5, 5, -5}, {0, 0, 4, 4, -5}, {3, 3, 4, 4, -5}};
        for (int i = 0; i < due.length; i++) {
            for (int what = 0; what < 5; what++) Check.due("piece", due[i][what], x.piece(i, what));
        }
        Check.due("beyond", -1, x.piece(4, 0));
        Check.due("below", -1, x.piece(-1, 0));
        Check.due("no what", -1, x.piece(0, 5));
        Check.due("no what", -1, x.piece(0, -1));
        x.image();
        x.flush();
        x.explain(0, 1, 0, 1);
        x.undo();
        Check.due("of the latest probe", 4, x.piece(0, 2));
    }

    private static void manyPieces() {
        Check.promise(18);
        StringBuilder askew = new StringBuilder();
        StringBuilder nested = new StringBuilder();
        for (int i = 0; i < 12; i++) {
            int at = 1 + 2 * i;
            askew.append(i > 0 ? ";" : "").append(at + "-" + at + "," + at + "-" + at);
            nested.append(i > 0 ? ";" : "").append(at + "-" + at + "," + (14 - i) + "-" + (14 + i));
        }
        pieces(askew.toString(), 12 * 3 + 1);
        pieces(nested.toString(), 169);
    }

    private static Counted loaded(String regions) {
        Counted x = new Counted();
        Check.due("load", 12, Helper.load(x, regions));
        return x;
    }

    /** Twelve regions, and how many pieces of the grid are missing then. */
    private static void pieces(String regions, int missing) {
        int all = 12 + missing;
        int area = 0;
        for (int from = 0; from < all; from += 50) {
            Counted x = loaded(regions);
            Check.due("the pieces", all, x.probe(0, 31, 0, 31));
            for (int i = from; i < Math.min(all, from + 50); i++) {
                area += (x.piece(i, 1) - x.piece(i, 0) + 1) * (x.piece(i, 3) - x.piece(i, 2) + 1);
            }
        }
        Check.due("all the grid", 1024, area);
        Counted x = loaded(regions);
        x.query(0, 0, 31, 0, 31);
        Check.due("ASKS", all, x.told(2));
        Check.due("one region", "0-31,0-31", Helper.boxes(x));
        Check.due("MERGED", all - 1, x.told(6));
        Check.due("HITS of all", 12, x.region(0, 5));
        Check.due("explained", all + 1, explained(regions).split(";").length);
    }

    /** THE PAPER of the whole grid explained, too long to be read from one object. */
    private static String explained(String regions) {
        StringBuilder s = new StringBuilder();
        int bytes = loaded(regions).explain(0, 31, 0, 31);
        while (s.length() < bytes) {
            Counted x = loaded(regions);
            x.explain(0, 31, 0, 31);
            int most = s.length() + 200;
            while (s.length() < Math.min(bytes, most)) s.append((char) x.paper(s.length()));
        }
        return s.toString();
    }

    private static void regions() {
        Check.promise(20);
        Counted x = Helper.with("merge off;setup 7");
        Check.due("none yet", -1, x.region(0, 0));
        x.put(0, 4, 6, 1);
        x.put(1, 5, 6, 1);
        x.put(2, 9, 9, 1);
        x.query(0, 0, 1, 0, 1);
        x.query(0, 2, 5, 6, 8);
        x.query(0, 3, 4, 7, 7);
        int[] due = {2, 5, 6, 8, 1, 1, 3, 4, 7, 7, 3, 9};
        for (int what = 0; what < due.length; what++) Check.due("what " + what, due[what], x.region(1, what));
        for (int what = 6; what < 10; what++) Check.due("no HOT " + what, -5, x.region(0, what));
        Check.due("no what", -1, x.region(0, 12));
        Check.due("no what", -1, x.region(0, -1));
        Check.due("beyond", -1, x.region(2, 0));
        Check.due("below", -1, x.region(-1, 0));
        x.take(1);
        Helper.set(x, "setup 20");
        Check.due("SIZE at all times", 2, x.region(1, 10));
        Check.due("COST at all times", 21, x.region(1, 11));
    }

    private static void weights() {
        Check.promise(21);
        Counted x = Helper.with("merge off");
        Check.due("none yet", NO, x.weight(0));
        x.put(0, 1, 1, 1);
        x.put(1, 1, 1, 1);
        x.query(0, 1, 1, 1, 1);
        Check.due("12000 by 3", 4000, x.weight(0));
        x.put(2, 1, 1, 1);
        x.query(0, 1, 1, 1, 1);
        Check.due("13000 times 2 by 4", 6500, x.weight(0));
        x.take(0);
        Check.due("not weighed by a write", 6500, x.weight(0));
        Helper.set(x, "setup 0");
        Check.due("nor by settings", 6500, x.weight(0));
        x.query(0, 1, 1, 1, 1);
        Check.due("2000 times 3 by 3", 2000, x.weight(0));
        x.put(3, 1, 1, 1);
        x.put(4, 1, 1, 1);
        x.put(5, 1, 1, 1);
        x.query(0, 1, 1, 1, 1);
        Check.due("cut", 20000 / 6, x.weight(0));
        x.query(0, 8, 8, 8, 8);
        Check.due("0", 0, x.weight(1));
        Check.due("beyond", NO, x.weight(2));
        Check.due("below", NO, x.weight(-1));
    }

    private static void tolds() {
        Check.promise(22);
        Counted x = Helper.with("most 2");
        x.put(0, 0, 0, 1);
        x.put(1, 0, 0, 1);
        x.put(2, 25, 0, 1);
        x.query(0, 0, 1, 0, 1);
        x.query(0, 0, 0, 0, 0);
        x.query(0, 2, 3, 0, 1);
        x.query(0, 20, 21, 0, 1);
        x.query(0, 25, 25, 0, 1);
        x.query(0, 25, 26, 0, 1);
        x.put(3, 25, 0, 1);
        x.spell();
        Check.due("the regions", "0:0-0,0-0*0@none=14000 4:25-26,0-1*0@none=11000", Helper.regions(x));
        long[] due = {2, 6, 5, 54, 2, 1, 1, 1, 10000, 4, 17};
        for (int what = 0; what < due.length; what++) Check.due("told " + what, due[what], x.told(what));
        Check.due("no such", NO, x.told(11));
        Check.due("no such", NO, x.told(-1));
    }

    private static void flushes() {
        Check.promise(23);
        Counted x = Helper.with("most 2");
        Check.due("none", 0, x.flush());
        Helper.load(x, "0-0,0-0;5-5,5-5;9-9,9-9");
        Check.due("two", 2, x.flush());
        Check.due("regions", 0, x.told(0));
        Check.due("EVICTED", 1, x.told(4));
        Check.due("LEVEL", 10000, x.told(8));
        Check.due("ASKS", 3, x.told(2));
        x.query(0, 0, 0, 0, 0);
        Check.due("the numbers go on", "3:0-0,0-0*0@none=20000", Helper.regions(x));
    }

    private static void keeps() {
        Check.promise(24);
        Counted x = Helper.with("merge off");
        Check.due("no regions", 0, x.keep(5));
        x.put(0, 5, 5, 1);
        x.put(1, 5, 5, 1);
        x.put(2, 9, 9, 1);
        Helper.load(x, "1-1,1-1;5-5,5-5;9-9,9-9");
        int[] due = {0, 1, 4, 5, 3, 6, 7, 7};
        for (int n = 0; n < due.length; n++) Check.due("keep " + n, due[n], x.keep(n));
        Check.due("most", 7, x.keep(Integer.MAX_VALUE));
        Check.due("-1", -2, x.keep(-1));
        Check.due("least", -2, x.keep(Integer.MIN_VALUE));
        x.query(0, 5, 5, 5, 5);
        Check.due("12 times 2", 2, x.keep(3));
        Check.due("nothing changes", 3, x.told(0));
        x = Helper.with("merge off;setup 0");
        x.put(0, 5, 5, 1);
        x.put(1, 9, 9, 1);
        Helper.load(x, "1-1,1-1;5-5,5-5;9-9,9-9;2-2,2-2");
        Check.due("worth nothing", 0, x.keep(1));
        Check.due("the least bits", 2, x.keep(3));
        Check.due("the least bits", 6, x.keep(9));
        x = Helper.with("merge off");
        StringBuilder s = new StringBuilder();
        for (int i = 0; i < 12; i++) s.append(i > 0 ? ";" : "").append(i + "-" + i + ",0-0");
        Helper.load(x, s.toString());
        Check.due("twelve", 4095, x.keep(12));
        Check.due("eleven of twelve", 2047, x.keep(11));
    }
}
