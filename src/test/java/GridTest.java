/** Terms 1 to 3, sentence by sentence: places, boxes, the store, regions, queries, merging, trimming, writes. */
public final class GridTest {
    private static final long NO = RangeAnswers.NO, OVER = RangeAnswers.OVER;
    private static final int MIN = Integer.MIN_VALUE, MAX = Integer.MAX_VALUE;

    public static void main(String[] args) {
        places();
        boxes();
        meeting();
        storeRows();
        worthsOfRows();
        order();
        asks();
        rests();
        restsOneByOne();
        regionsOrder();
        sizesAndCosts();
        rowsAtAllTimes();
        missing();
        hits();
        hots();
        big();
        answerOfAllRows();
        mergingPairs();
        mergingOrder();
        mergedRegion();
        trimmedByMost();
        trimmedByRoom();
        trimmedByWeight();
        shrinking();
        levels();
        writesPatch();
        writesDrop();
        cutPlaces();
        cutRegions();
        writesTwice();
        trimmedOnce();
        Check.end();
    }

    private static void places() {
        Check.says("PLACES are x and y, each 0 .. 31");
        Counted x = new Counted();
        int[] ends = {0, 31};
        for (int px : ends) {
            for (int py : ends) {
                Check.due("put at " + px + " " + py, 0, x.put(7, px, py, 1));
                Check.due("x", px, x.row(7, 0));
                Check.due("y", py, x.row(7, 1));
            }
        }
        for (int no : new int[] {-1, 32, 63, 64, 256, -32, MIN, MAX}) {
            Check.due("put at x " + no, -2, x.put(7, no, 5, 1));
            Check.due("put at y " + no, -2, x.put(7, 5, no, 1));
            Check.due("put at both " + no, -2, x.put(7, no, no, 1));
        }
        Check.due("the row stays", 31 + 31, x.row(7, 0) + x.row(7, 1));
    }

    private static void boxes() {
        Check.says("0 <= x0 <= x1 <= 31, y likewise");
        int[][] good = {{0, 0, 0, 0}, {31, 31, 31, 31}, {0, 31, 0, 31}, {0, 31, 5, 5}, {7, 7, 0, 31}, {0, 1, 30, 31}};
        for (int[] b : good) {
            Counted x = new Counted();
            Check.due("probe", 1, x.probe(b[0], b[1], b[2], b[3]));
            Check.due("trace", 1, x.trace(b[0], b[1], b[2], b[3]));
            Check.due("watch", 0, x.watch(0, b[0], b[1], b[2], b[3]));
            String box = b[0] + "-" + b[1] + "," + b[2] + "-" + b[3];
            Check.due("query " + box, 0, x.query(0, b[0], b[1], b[2], b[3]));
            Check.due("the region", box, Helper.boxes(x));
            x.explain(b[0], b[1], b[2], b[3]);
            Check.due("the paper", "have 0 " + box + ";pay 0", Helper.paper(x));
        }
        Check.says("A BOX that is none is BAD");
        for (int[] b : Helper.NO_BOXES) {
            Counted x = new Counted();
            Check.due("explain", -2, x.explain(b[0], b[1], b[2], b[3]));
            Check.due("probe", -2, x.probe(b[0], b[1], b[2], b[3]));
            Check.due("trace", -2, x.trace(b[0], b[1], b[2], b[3]));
            Check.due("watch", -2, x.watch(0, b[0], b[1], b[2], b[3]));
            Check.due("query", NO, x.query(0, b[0], b[1], b[2], b[3]));
            Check.due("nothing came of these", 0, x.told(0) + x.told(2) + x.told(10) + x.trace(-1, 0, 0, 0));
        }
        Counted x = new Counted();
        Check.due("x0 -1, but for trace()", -2, x.explain(-1, 0, 0, 0));
        Check.due("x0 -1, but for trace()", -2, x.probe(-1, 0, 0, 0));
        Check.due("x0 -1, but for trace()", -2, x.watch(0, -1, 0, 0, 0));
        Check.due("x0 -1, but for trace()", NO, x.query(0, -1, 0, 0, 0));
    }

    private static void meeting() {
        Check.says("BOXES meet, if some PLACE is in both");
        String[] touching = {"0-10,0-10 10-10,10-10", "20-31,0-10 20-20,10-10", "0-10,20-31 10-10,20-20",
            "20-31,20-31 20-20,20-20", "15-15,20-20 15-15,20-20", "0-31,0-31 10-20,10-20"};
        for (String t : touching) {
            Counted x = probed(t.substring(0, t.indexOf(' ')), 10, 20, 10, 20);
            Check.due("COMMON " + t, "0:" + t.substring(t.indexOf(' ') + 1), Helper.piece(x, 0));
        }
        String[] beside = {"0-9,0-31", "21-31,0-31", "0-31,0-9", "0-31,21-31", "9-9,9-9", "21-21,21-21", "9-9,21-21"};
        for (String t : beside) {
            Check.due("beside " + t, "-5:10-20,10-20", Helper.pieces(probed(t, 10, 20, 10, 20)));
        }
    }

    /** One region, and a box probed. */
    private static Counted probed(String region, int x0, int x1, int y0, int y1) {
        Counted x = new Counted();
        Helper.load(x, region);
        x.probe(x0, x1, y0, y1);
        return x;
    }

    private static void storeRows() {
        Check.says("THE STORE has ROWS 0 .. 59, each OUT (at first) or IN");
        Counted x = new Counted();
        for (int r = 0; r < 60; r++) {
            Check.due("row " + r, -3, x.row(r, 0));
            Check.due("take " + r, -3, x.take(r));
        }
        for (int r : new int[] {-1, 60, 63, 64, 119, -4, -60, MIN, MAX}) {
            Check.due("put " + r, -1, x.put(r, 0, 0, 1));
            Check.due("take " + r, -1, x.take(r));
            Check.due("row " + r, -1, x.row(r, 0));
            Check.due("worth " + r, NO, x.worth(r));
        }
        Check.due("none IN", 0, x.told(9));
        x.put(0, 1, 1, 5);
        x.put(4, 1, 1, 5);
        for (int r : new int[] {64, 68, -60, -64, 60}) {
            Check.due("take " + r, -1, x.take(r));
            Check.due("worth " + r, NO, x.worth(r));
        }
        Check.due("two IN", 2, x.told(9));
        x = new Counted();
        for (int r = 0; r < 60; r++) Check.due("put " + r, 0, x.put(r, r % 32, r / 32, r));
        Check.due("all IN", 60, x.told(9));
        Check.due("all found", 60, x.query(0, 0, 31, 0, 31));
        Check.due("put again", 0, x.put(59, 0, 0, 7));
        Check.due("all IN", 60, x.told(9));
    }

    private static void worthsOfRows() {
        Check.says("a WORTH (a long that is neither NO nor OVER)");
        Counted x = new Counted();
        Check.due("NO", -2, x.put(0, 0, 0, NO));
        Check.due("OVER", -2, x.put(0, 0, 0, OVER));
        for (long w : new long[] {OVER + 1, Long.MAX_VALUE, 0, -1, 1, MIN, MAX}) {
            Check.due("put " + w, 0, x.put(0, 0, 0, w));
            Check.due("worth", w, x.worth(0));
            Check.due("NO", -2, x.put(0, 1, 1, NO));
            Check.due("OVER", -2, x.put(0, 1, 1, OVER));
            Check.due("worth stays", w, x.worth(0));
            Check.due("place stays", 0, x.row(0, 0) + x.row(0, 1));
        }
    }

    private static void order() {
        Check.says("ROWS are told by x, then by y, then by number, the lesser first");
        Counted x = new Counted();
        int[][] rows = {{59, 0, 31}, {0, 1, 0}, {58, 0, 31}, {1, 31, 0}, {2, 30, 31}, {3, 0, 0}, {4, 1, 0}, {5, 0, 30}};
        for (int[] r : rows) x.put(r[0], r[1], r[2], 1);
        x.query(0, 0, 31, 0, 31);
        Check.due("find", "3 5 58 59 0 4 2 1", Helper.found(x));
        x.put(59, 31, 31, 1);
        x.put(3, 1, 0, 1);
        x.query(0, 0, 31, 0, 31);
        Check.due("moved", "5 58 0 3 4 2 1 59", Helper.found(x));
        x.put(3, 0, 0, 1);
        x.query(0, 0, 0, 0, 0);
        Check.due("moved back", "3", Helper.found(x));
    }

    private static void asks() {
        Check.says("An ASK costs SETUP and how many ROWS are in it: ASKS is 1 more, PAID more by the cost");
        Counted x = Helper.with("setup 0");
        x.query(0, 3, 3, 3, 3);
        Check.due("ASKS", 1, x.told(2));
        Check.due("PAID nothing", 0, x.told(3));
        x.query(0, 3, 3, 3, 3);
        Check.due("had", 1, x.told(2));
        x = Helper.with("setup 99");
        for (int r = 0; r < 60; r++) x.put(r, 31, 31, 1);
        x.query(0, 31, 31, 31, 31);
        Check.due("ASKS", 1, x.told(2));
        Check.due("PAID", 159, x.told(3));
        x.query(0, 30, 31, 30, 31);
        Check.due("not kept, asked again", 2, x.told(2));
        Check.due("PAID", 318, x.told(3));
    }

    private static void rests() {
        Check.says("REST: below the other's y0 (in its whole width), above its y1, below its x0, above its x1");
        String[][] due = {
            {"0-31,0-31", "0:10-20,10-20"},
            {"10-20,10-20", "0:10-20,10-20"},
            {"0-31,0-10", "0:10-20,10-10 -5:10-20,11-20"},
            {"0-31,20-31", "0:10-20,20-20 -5:10-20,10-19"},
            {"0-10,0-31", "0:10-10,10-20 -5:11-20,10-20"},
            {"20-31,0-31", "0:20-20,10-20 -5:10-19,10-20"},
            {"15-15,15-15", "0:15-15,15-15 -5:10-20,10-14 -5:10-20,16-20 -5:10-14,15-15 -5:16-20,15-15"},
            {"11-19,11-19", "0:11-19,11-19 -5:10-20,10-10 -5:10-20,20-20 -5:10-10,11-19 -5:20-20,11-19"},
            {"15-16,0-31", "0:15-16,10-20 -5:10-14,10-20 -5:17-20,10-20"},
            {"0-31,15-16", "0:10-20,15-16 -5:10-20,10-14 -5:10-20,17-20"},
            {"0-12,0-12", "0:10-12,10-12 -5:10-20,13-20 -5:13-20,10-12"},
            {"18-31,0-12", "0:18-20,10-12 -5:10-20,13-20 -5:10-17,10-12"},
            {"0-12,18-31", "0:10-12,18-20 -5:10-20,10-17 -5:13-20,18-20"},
            {"18-31,18-31", "0:18-20,18-20 -5:10-20,10-17 -5:10-17,18-20"}};
        for (String[] d : due) Check.due("by " + d[0], d[1], Helper.pieces(probed(d[0], 10, 20, 10, 20)));
        Check.due("the grid's first place", "0:0-0,0-0 -5:0-31,1-31 -5:1-31,0-0",
            Helper.pieces(probed("0-0,0-0", 0, 31, 0, 31)));
        Check.due("the grid's last place", "0:31-31,31-31 -5:0-31,0-30 -5:0-30,31-31",
            Helper.pieces(probed("31-31,31-31", 0, 31, 0, 31)));
        Check.due("one place of one", "0:4-4,4-4", Helper.pieces(probed("4-4,4-4", 4, 4, 4, 4)));
    }

    private static void restsOneByOne() {
        Check.says("by REGION after REGION each BOX of these becomes, in its place, its REST by the REGION's");
        Counted x = new Counted();
        Helper.load(x, "4-5,4-5;4-4,8-8;0-0,6-6");
        x.probe(0, 9, 0, 9);
        Check.due("pieces", "0:4-5,4-5 1:4-4,8-8 2:0-0,6-6 -5:0-9,0-3 -5:0-9,7-7 -5:1-9,6-6 -5:0-9,9-9 -5:0-3,8-8 "
            + "-5:5-9,8-8 -5:0-3,4-5 -5:6-9,4-5", Helper.pieces(x));
        Check.says("REST by one that it doesn't meet: itself");
        x.probe(20, 30, 20, 30);
        Check.due("itself", "-5:20-30,20-30", Helper.pieces(x));
    }

    private static void regionsOrder() {
        Check.says("REGIONS in an order (none at first; new ones come last), each with a NUMBER (0, 1, .. as they come)");
        Counted x = Helper.with("merge off");
        Check.due("none at first", 0, x.told(0));
        Check.due("none at first", -1, x.region(0, 4));
        x.query(0, 20, 20, 20, 20);
        x.query(0, 5, 5, 5, 5);
        x.flush();
        x.query(0, 9, 9, 9, 9);
        x.query(0, 1, 1, 1, 1);
        Check.due("go on", "2:9-9,9-9*0@none=10000 3:1-1,1-1*0@none=10000", Helper.regions(x));
        Check.says("A new REGION has no HITS, no HOT, and is WEIGHED");
        Helper.load(x, "3-3,3-3");
        Check.due("loaded", 0, x.region(2, 5));
        Check.due("loaded", -5, x.region(2, 6));
        Check.due("loaded", 10000, x.weight(2));
    }

    private static void sizesAndCosts() {
        Check.says("SIZE: 1 more than how many these are. COST: SETUP and how many these are");
        Counted x = Helper.with("room 99;setup 0");
        x.query(0, 31, 31, 31, 31);
        Check.due("SIZE of none", 1, x.region(0, 10));
        Check.due("COST of none", 0, x.region(0, 11));
        Check.due("WEIGHT of none", 0, x.weight(0));
        for (int r = 0; r < 60; r++) x.put(r, 31, 31, 1);
        Check.due("SIZE of all", 61, x.region(0, 10));
        Check.due("COST of all", 60, x.region(0, 11));
        Check.due("all SIZES", 61, x.told(1));
        x.query(0, 31, 31, 31, 31);
        Check.says("1000 times COST times (1 and HITS) by SIZE (cut)");
        Check.due("WEIGHT of all", 1000 * 60 * 2 / 61, x.weight(0));
    }

    private static void rowsAtAllTimes() {
        Check.says("ROWS of a REGION: those of THE STORE in its BOX, at all times");
        Counted x = Helper.with("room 99");
        x.query(0, 10, 20, 10, 20);
        int[][] inside = {{10, 10}, {20, 10}, {10, 20}, {20, 20}, {15, 15}};
        int[][] outside = {{9, 10}, {21, 10}, {10, 9}, {10, 21}, {9, 9}, {21, 21}};
        for (int i = 0; i < inside.length; i++) x.put(i, inside[i][0], inside[i][1], 1);
        for (int i = 0; i < outside.length; i++) x.put(20 + i, outside[i][0], outside[i][1], 1);
        Check.due("SIZE", 6, x.region(0, 10));
        x.put(0, 10, 9, 1);
        x.put(1, 20, 20, 1);
        x.take(2);
        Check.due("one out, one taken", 4, x.region(0, 10));
        x.put(0, 10, 11, 1);
        Check.due("back, elsewhere", 5, x.region(0, 10));
        Check.due("found there", 1, x.query(0, 10, 10, 11, 11));
        x.query(0, 10, 10, 9, 10);
        Check.due("not where it was", "22", Helper.found(x));
    }

    private static void missing() {
        Check.says("only what is missing is asked of the store");
        Counted x = Helper.with("merge off");
        Helper.load(x, "0-3,0-31;4-9,0-15;4-9,16-31");
        x.query(0, 0, 9, 0, 31);
        Check.due("nothing is missing", 3, x.told(2));
        Check.due("no new region", 3, x.told(0));
        x.query(0, 0, 10, 0, 31);
        Check.due("one column is", 5, x.told(2));
        Check.due("in two parts", "0-3,0-31 4-9,0-15 4-9,16-31 10-10,16-31 10-10,0-15", Helper.boxes(x));
    }

    private static void hits() {
        Check.says("Each REGION that meets the BOX: HITS 1 more");
        Counted x = Helper.with("merge off");
        Helper.load(x, "0-3,0-3;4-7,0-3;9-9,9-9");
        x.query(0, 3, 4, 3, 3);
        Check.due("two", "0:0-3,0-3*1@3-3,3-3=20000 1:4-7,0-3*1@4-4,3-3=20000 2:9-9,9-9*0@none=10000",
            Helper.regions(x));
        x.query(0, 3, 3, 0, 0);
        Check.due("one", "0:0-3,0-3*2@3-3,0-3=30000 1:4-7,0-3*1@4-4,3-3=20000 2:9-9,9-9*0@none=10000",
            Helper.regions(x));
    }

    private static void hots() {
        Check.says("HOT becomes the BOX AROUND HOT and the COMMON one (the COMMON one, if there was none)");
        Counted x = new Counted();
        x.query(0, 0, 31, 0, 31);
        x.query(0, 31, 31, 31, 31);
        Check.due("the COMMON one", "0:0-31,0-31*1@31-31,31-31=20000", Helper.regions(x));
        x.query(0, 0, 0, 31, 31);
        Check.due("AROUND both", "0:0-31,0-31*2@0-31,31-31=30000", Helper.regions(x));
        x.query(0, 5, 6, 31, 31);
        Check.due("within it", "0:0-31,0-31*3@0-31,31-31=40000", Helper.regions(x));
        x.query(0, 5, 6, 0, 0);
        Check.due("all of it", "0:0-31,0-31*4@0-31,0-31=50000", Helper.regions(x));
    }

    private static void big() {
        Check.says("if its AREA is not above BIG, it becomes a new REGION");
        String[] due = {"1 0", "5 0", "6 1", "7 1", "1023 1", "1024 1"};
        for (String d : due) {
            Counted x = Helper.with("big " + d.substring(0, d.indexOf(' ')));
            x.query(0, 30, 31, 0, 2);
            Check.due("6 places by big " + d, d.charAt(d.length() - 1) - '0', x.told(0));
            Check.due("asked all the same", 1, x.told(2));
        }
        Counted x = Helper.with("big 1");
        x.query(0, 3, 3, 3, 3);
        Check.due("one place by big 1", 1, x.told(0));
        x = new Counted();
        x.query(0, 0, 31, 0, 31);
        Check.due("the grid by big 1024", 1, x.told(0));
        x = Helper.with("big 1023");
        x.query(0, 0, 31, 0, 31);
        Check.due("the grid by big 1023", 0, x.told(0));
        x.query(0, 0, 30, 0, 31);
        x.query(0, 0, 31, 0, 31);
        Check.due("its two parts", "0-31,0-31", Helper.boxes(x));
    }

    private static void answerOfAllRows() {
        Check.says("The answer is worked out from all ROWS in the BOX");
        Counted x = Helper.with("room 1;big 1");
        for (int r = 0; r < 5; r++) x.put(r, r, r, r);
        Check.due("sum", 10, x.query(1, 0, 31, 0, 31));
        Check.due("sum", 6, x.query(1, 1, 3, 1, 3));
        Check.due("none kept", 0, x.told(0));
    }

    private static String merged(String regions) {
        Counted x = new Counted();
        Helper.load(x, regions);
        x.query(0, 31, 31, 31, 31);
        return Helper.boxes(x).replace(" 31-31,31-31", "") + " " + x.told(6);
    }

    private static void mergingPairs() {
        Check.says("two REGIONS whose BOXES are just one BOX together");
        String[] pairs = {"0-1,0-1;2-3,0-1", "2-3,0-1;0-1,0-1", "0-1,0-1;0-1,2-3", "0-1,2-3;0-1,0-1", "0-15,0-31;16-31,0-31",
            "5-5,5-5;5-5,6-6", "5-5,5-5;4-4,5-5"};
        String[] whole = {"0-3,0-1", "0-3,0-1", "0-1,0-3", "0-1,0-3", "0-31,0-31", "5-5,5-6", "4-5,5-5"};
        for (int i = 0; i < pairs.length; i++) Check.due(pairs[i], whole[i] + " 1", merged(pairs[i]));
        String[] none = {"0-1,0-1;3-4,0-1", "0-1,0-1;0-1,3-4", "0-1,0-1;2-3,2-3", "2-3,0-1;0-1,2-3", "0-1,0-1;2-3,0-2",
            "0-1,0-2;2-3,0-1", "0-1,0-1;2-3,1-1", "0-1,0-1;2-3,1-2", "0-1,0-1;0-2,2-3", "0-2,0-1;0-1,2-3",
            "0-1,0-1;1-1,2-3", "0-1,0-1;1-2,2-3", "0-1,0-0;2-3,16-16", "0-0,0-1;16-16,2-3"};
        for (String n : none) Check.due(n, n.replace(';', ' ') + " 0", merged(n));
        Check.says("MERGING (if merge is on)");
        Counted x = Helper.with("merge off");
        Helper.load(x, "0-1,0-1;2-3,0-1");
        x.query(0, 0, 4, 0, 1);
        Check.due("off", "0-1,0-1 2-3,0-1 4-4,0-1", Helper.boxes(x));
        Helper.set(x, "merge on");
        x.query(0, 0, 0, 0, 0);
        Check.due("on", "0-4,0-1", Helper.boxes(x));
        Check.due("MERGED", 2, x.told(6));
    }

    private static void mergingOrder() {
        Check.says("the pair whose first is earliest (of those the one whose other is earliest)");
        Check.due("the first's own", "0-0,0-1 1-1,1-1 1", merged("0-0,0-0;1-1,1-1;0-0,1-1"));
        Check.due("the earliest other", "1-2,1-1 1-1,2-2 1", merged("1-1,1-1;2-2,1-1;1-1,2-2"));
        Check.due("the earliest other", "1-1,1-2 2-2,1-1 1", merged("1-1,1-1;1-1,2-2;2-2,1-1"));
        Check.says("as long as there are two");
        Check.due("an earlier one then", "0-1,0-1 2", merged("0-1,1-1;0-0,0-0;1-1,0-0"));
        Check.due("a later one then", "0-1,0-1 2", merged("0-0,0-0;1-1,0-0;0-1,1-1"));
        Check.due("of two for the new one", "2-3,0-5 0-1,0-3 3", merged("2-3,4-5;0-1,0-3;2-3,0-1;2-2,2-3;3-3,2-3"));
        Check.due("six", "0-5,0-0 5", merged("0-0,0-0;2-2,0-0;4-4,0-0;1-1,0-0;3-3,0-0;5-5,0-0"));
    }

    private static void mergedRegion() {
        Check.says("HITS of both together, HOT AROUND both (that of one, if the other has none), the greater WEIGHT");
        Counted x = Helper.with("merge off");
        x.put(0, 0, 0, 1);
        Helper.load(x, "0-1,0-1;2-3,0-1;0-3,5-5;0-3,6-6;9-9,9-9");
        x.query(0, 0, 0, 0, 0);
        x.query(0, 0, 0, 0, 0);
        x.query(0, 3, 3, 1, 1);
        x.query(0, 1, 1, 6, 6);
        Helper.set(x, "merge on");
        x.query(0, 9, 9, 9, 9);
        Check.due("both", "0:0-3,0-1*3@0-3,0-1=20000 2:0-3,5-6*1@1-1,6-6=20000 4:9-9,9-9*1@9-9,9-9=20000",
            Helper.regions(x));
        x = Helper.with("merge off");
        Helper.load(x, "0-1,0-1;2-3,0-1;4-5,0-1");
        x.query(0, 0, 0, 0, 0);
        Helper.set(x, "merge on");
        x.query(0, 31, 31, 31, 31);
        Check.due("the first's HOT", "0:0-5,0-1*1@0-0,0-0=20000 3:31-31,31-31*0@none=10000", Helper.regions(x));
        x = new Counted();
        Helper.load(x, "0-1,0-1;2-3,0-1");
        x.query(0, 31, 31, 31, 31);
        Check.due("no HOT of none", -5, x.region(0, 6));
        Check.due("its WEIGHT is not anew", 10000, x.weight(0));
    }

    private static void trimmedByMost() {
        Check.says("as long as there are more REGIONS than MOST");
        for (int most = 1; most <= 12; most += 11) {
            Counted x = Helper.with("merge off;room 99;most " + most);
            for (int i = 0; i < most; i++) x.query(0, 2 * i, 2 * i, 0, 0);
            Check.due("just MOST", most, x.told(0));
            Check.due("EVICTED", 0, x.told(4));
            x.query(0, 31, 31, 0, 0);
            Check.due("one more", most, x.told(0));
            Check.due("EVICTED", 1, x.told(4));
            x.query(0, 0, 0, 31, 31);
            Check.due("two more", 2, x.told(4));
        }
        Counted x = Helper.with("merge off;most 12");
        x.query(0, 16, 16, 16, 16);
        x.query(0, 0, 31, 0, 31);
        Check.due("all of a query's", 5, x.told(0));
        Helper.set(x, "most 1");
        Check.due("four at once", 4, x.told(4));
        Check.due("the one with HITS stays", "16-16,16-16", Helper.boxes(x));
    }

    private static void trimmedByRoom() {
        Check.says("or all SIZES together are above ROOM");
        Counted x = Helper.with("room 1");
        x.query(0, 4, 4, 4, 4);
        Check.due("SIZE 1 in room 1", 1, x.told(0));
        x.put(0, 4, 4, 1);
        Check.due("SIZE 2 in room 1", 0, x.told(0));
        x.query(0, 4, 4, 4, 4);
        Check.due("it can't stay", 0, x.told(0));
        Check.due("EVICTED", 2, x.told(4));
        x = Helper.with("room 61;setup 0");
        for (int r = 0; r < 60; r++) x.put(r, 1, 1, 1);
        x.query(0, 1, 1, 1, 1);
        Check.due("just ROOM", 61, x.told(1));
        x.query(0, 9, 9, 9, 9);
        Check.due("one more, worth nothing, goes", "1-1,1-1", Helper.boxes(x));
        Helper.set(x, "room 60");
        Check.due("ROOM less by one", 0, x.told(0));
        Check.due("EVICTED", 2, x.told(4));
    }

    private static void trimmedByWeight() {
        Check.says("the one with the least WEIGHT (of several the least NUMBER)");
        Counted x = Helper.with("merge off;most 3");
        x.put(0, 5, 5, 1);
        Helper.load(x, "1-1,1-1;5-5,5-5;9-9,9-9");
        x.query(0, 20, 20, 20, 20);
        Check.due("the least", "1-1,1-1 9-9,9-9 20-20,20-20", Helper.boxes(x));
        x.query(0, 21, 21, 21, 21);
        Check.due("of several", "9-9,9-9 20-20,20-20 21-21,21-21", Helper.boxes(x));
        x.query(0, 9, 9, 9, 9);
        x.query(0, 22, 22, 22, 22);
        Check.due("of several", "9-9,9-9 21-21,21-21 22-22,22-22", Helper.boxes(x));
        Helper.load(x, "25-25,25-25;26-26,26-26");
        Check.due("two go", "9-9,9-9 25-25,25-25 26-26,26-26", Helper.boxes(x));
    }

    private static Counted hot(String settings) {
        Counted x = Helper.with(settings);
        x.query(0, 0, 3, 0, 3);
        return x;
    }

    private static void shrinking() {
        Check.says("If shrink is on, and it has a HOT of lesser AREA than its BOX");
        Counted x = hot("room 1");
        x.query(0, 0, 3, 0, 2);
        x.put(0, 0, 3, 1);
        Check.due("one line less", "0:0-3,0-2*0@none=30000", Helper.regions(x));
        Check.due("SHRUNK", 1, x.told(5));
        Check.due("EVICTED", 0, x.told(4));
        x = hot("most 1");
        x.query(0, 0, 3, 0, 3);
        for (int i = 0; i < 3; i++) x.query(0, 9, 9, 9, 9);
        Check.due("HOT is the whole BOX", 0, x.told(5));
        Check.due("it went", "9-9,9-9", Helper.boxes(x));
        x = hot("most 1;shrink off");
        x.query(0, 0, 0, 0, 0);
        for (int i = 0; i < 3; i++) x.query(0, 9, 9, 9, 9);
        Check.due("shrink is off", 0, x.told(5));
        x = hot("room 1");
        x.put(0, 1, 1, 1);
        Check.due("no HOT", 0, x.told(5));
        Check.due("it goes", 1, x.told(4));
        Check.says("it has no HOT then, HITS are halved (cut), it is WEIGHED");
        for (int hits = 1; hits <= 5; hits++) {
            x = hot("room 1");
            for (int i = 0; i < hits; i++) x.query(0, 3, 3, 3, 3);
            x.put(0, 1, 1, 1);
            int half = hits / 2;
            Check.due(hits + " HITS", "0:3-3,3-3*" + half + "@none=" + (10000 * (1 + hits) + 10000 * (1 + half)),
                Helper.regions(x));
        }
        x = hot("room 1");
        x.query(0, 3, 3, 3, 3);
        x.put(0, 3, 3, 1);
        Check.due("too much yet: it goes", 0, x.told(0));
        Check.due("SHRUNK", 1, x.told(5));
        Check.due("EVICTED", 1, x.told(4));
    }

    private static void levels() {
        Check.says("LEVEL is 0 at first; LEVEL becomes its WEIGHT, if that is greater");
        Counted x = Helper.with("most 1");
        Check.due("at first", 0, x.told(8));
        x.query(0, 1, 1, 1, 1);
        Check.due("nothing goes", 0, x.told(8));
        x.query(0, 3, 3, 3, 3);
        Check.due("the first went", 10000, x.told(8));
        x.query(0, 5, 5, 5, 5);
        Check.due("as great as LEVEL", "2:5-5,5-5*0@none=20000", Helper.regions(x));
        Check.due("LEVEL", 10000, x.told(8));
        x.query(0, 7, 7, 7, 7);
        Check.due("LEVEL", 20000, x.told(8));
        x.flush();
        Check.due("stays by flush()", 20000, x.told(8));
        x.query(0, 7, 7, 7, 7);
        Check.due("LEVEL and its own", 30000, x.weight(0));
    }

    private static void writesPatch() {
        Check.says("patch: nothing; TOUCHED is 1 more, if a REGION had the PLACE");
        Counted x = new Counted();
        x.query(0, 10, 20, 10, 20);
        int[][] ends = {{10, 10}, {20, 20}, {10, 20}, {20, 10}};
        for (int i = 0; i < ends.length; i++) x.put(i, ends[i][0], ends[i][1], 1);
        Check.due("each corner", 4, x.told(7));
        int[][] beside = {{9, 10}, {10, 9}, {21, 20}, {20, 21}};
        for (int i = 0; i < beside.length; i++) x.put(10 + i, beside[i][0], beside[i][1], 1);
        Check.due("beside each", 4, x.told(7));
        Check.due("its WEIGHT is not anew", "0:10-20,10-20*0@none=10000", Helper.regions(x));
    }

    private static void writesDrop() {
        Check.says("drop: the REGION goes");
        Counted x = Helper.with("writes drop;merge off");
        Helper.load(x, "0-3,0-3;4-7,0-3;8-9,0-3");
        Check.due("the one in the midst", 2, x.put(0, 4, 3, 1));
        Check.due("the others", "0-3,0-3 8-9,0-3", Helper.boxes(x));
        Check.due("no REGION has the PLACE", 2, x.put(1, 4, 3, 1));
        Check.due("TOUCHED", 1, x.told(7));
        Check.due("no EVICTED", 0, x.told(4));
        Check.due("LEVEL", 0, x.told(8));
        Check.due("taken where none is", 2, x.take(0));
        Check.due("TOUCHED", 1, x.told(7));
    }

    private static void cutPlaces() {
        Check.says("cut: the BOXES of the REST of its BOX by the BOX of that PLACE alone become new REGIONS, in order");
        String[][] due = {
            {"5", "5", "4-6,4-4 4-6,6-6 4-4,5-5 6-6,5-5"}, {"4", "4", "4-6,5-6 5-6,4-4"}, {"6", "6", "4-6,4-5 4-5,6-6"},
            {"4", "6", "4-6,4-5 5-6,6-6"}, {"6", "4", "4-6,5-6 4-5,4-4"}, {"4", "5", "4-6,4-4 4-6,6-6 5-6,5-5"},
            {"6", "5", "4-6,4-4 4-6,6-6 4-5,5-5"}, {"5", "4", "4-6,5-6 4-4,4-4 6-6,4-4"},
            {"5", "6", "4-6,4-5 4-4,6-6 6-6,6-6"}, {"3", "4", "4-6,4-6"}, {"7", "6", "4-6,4-6"}, {"4", "7", "4-6,4-6"}};
        for (String[] d : due) {
            Counted x = Helper.with("writes cut");
            x.query(0, 4, 6, 4, 6);
            x.put(0, Integer.parseInt(d[0]), Integer.parseInt(d[1]), 1);
            Check.due("at " + d[0] + " " + d[1], d[2], Helper.boxes(x));
            Check.due("TOUCHED", d[2].equals("4-6,4-6") ? 0 : 1, x.told(7));
        }
        Counted x = Helper.with("writes cut");
        x.query(0, 5, 5, 5, 5);
        Check.due("a region of that place alone", 0, x.put(0, 5, 5, 1));
        Check.due("TOUCHED", 1, x.told(7));
        Check.due("no EVICTED", 0, x.told(4));
    }

    private static void cutRegions() {
        Check.says("each with its HITS and its WEIGHT, and for HOT the COMMON of its HOT and the new one's BOX (none, ..)");
        Counted x = Helper.with("writes cut;merge off");
        Helper.load(x, "4-6,4-6;20-20,20-20");
        x.query(0, 6, 7, 6, 7);
        x.query(0, 6, 6, 5, 5);
        x.put(0, 5, 5, 1);
        Check.due("parts", "1:20-20,20-20*0@none=10000 2:6-7,7-7*0@none=10000 3:7-7,6-6*0@none=10000 "
            + "4:4-6,4-4*2@none=30000 5:4-6,6-6*2@6-6,6-6=30000 6:4-4,5-5*2@none=30000 7:6-6,5-5*2@6-6,5-5=30000",
            Helper.regions(x));
        x = Helper.with("writes cut");
        x.query(0, 4, 6, 4, 6);
        x.put(0, 4, 4, 1);
        Check.due("it had none", "1:4-6,5-6*0@none=10000 2:5-6,4-4*0@none=10000", Helper.regions(x));
    }

    private static void writesTwice() {
        Check.says("put() of a ROW that is IN: it comes OUT, a WRITE at its PLACE; then a WRITE at the new PLACE");
        Counted x = new Counted();
        x.query(0, 0, 9, 0, 9);
        x.put(0, 3, 3, 1);
        Check.due("once", 1, x.told(7));
        x.put(0, 3, 3, 1);
        Check.due("the same place: twice", 3, x.told(7));
        x.put(0, 20, 3, 1);
        Check.due("out of it: once", 4, x.told(7));
        x.put(0, 3, 3, 1);
        Check.due("into it: once", 5, x.told(7));
        x.take(0);
        Check.due("taken: once", 6, x.told(7));
        x = new Counted();
        x.put(0, 3, 3, 1);
        Helper.set(x, "writes drop");
        x.query(0, 0, 9, 0, 9);
        Check.due("dropped by the first", 0, x.put(0, 4, 4, 1));
        Check.due("TOUCHED", 1, x.told(7));
        x = new Counted();
        x.put(0, 3, 3, 1);
        Helper.set(x, "writes cut");
        x.query(0, 3, 9, 3, 3);
        Check.due("cut twice", 2, x.put(0, 5, 3, 1));
        Check.due("the second part's", "2:4-4,3-3*0@none=5500 3:6-9,3-3*0@none=5500", Helper.regions(x));
        Check.due("TOUCHED", 2, x.told(7));
    }

    private static void trimmedOnce() {
        Check.says("Behind each put() or take() once: TRIMMING");
        Counted x = Helper.with("merge off;most 2;writes cut");
        x.put(0, 5, 5, 1);
        Helper.load(x, "20-20,20-21;4-6,4-6");
        x.query(0, 5, 5, 5, 5);
        Check.due("not between the WRITES", 2, x.put(0, 20, 20, 1));
        Check.due("TOUCHED", 2, x.told(7));
        Check.due("regions", "4:4-4,5-5*1@none=11000 5:6-6,5-5*1@none=11000", Helper.regions(x));
        Check.due("EVICTED", 3, x.told(4));
        x = Helper.with("merge off;most 2;writes cut");
        x.put(0, 5, 5, 1);
        Helper.load(x, "20-20,20-21;4-6,4-6");
        Check.due("take()", 2, x.take(0));
        Check.due("EVICTED", 3, x.told(4));
        x = Helper.with("room 2");
        x.query(0, 0, 9, 0, 9);
        x.put(0, 1, 1, 1);
        x.put(0, 2, 2, 1);
        Check.due("moved within: just ROOM", 1, x.told(0));
        x.put(1, 20, 20, 1);
        Check.due("beside it: just ROOM", 1, x.told(0));
        x.put(1, 3, 3, 1);
        Check.due("into it", 0, x.told(0));
    }
}
