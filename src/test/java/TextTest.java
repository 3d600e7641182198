/** Promises 6 to 15. */
public final class TextTest {
    private static final long NO = RangeAnswers.NO;

    public static void main(String[] args) {
        feeds();
        clears();
        settings();
        settingsFaults();
        settingsTrim();
        setting();
        runs();
        runsInOrder();
        conditions();
        runFaults();
        conditionFaults();
        answers();
        spells();
        loads();
        loadFaults();
        explains();
        papers();
        Check.end();
    }

    private static void feeds() {
        Check.promise(6);
        Counted x = new Counted();
        int[] bad = {0, -1, 128, 255, Integer.MAX_VALUE, Integer.MIN_VALUE};
        for (int letter : bad) Check.due("feed " + letter, -2, x.feed(letter));
        Check.due("the least", 1, x.feed(1));
        Check.due("the most", 2, x.feed(127));
        for (int i = 3; i <= 160; i++) Check.due("feed", i, x.feed('a'));
        Check.due("no room", -4, x.feed('a'));
        Check.due("BAD ahead of FULL", -2, x.feed(0));
        Check.due("bytes", 160, x.clear());
    }

    private static void clears() {
        Check.promise(7);
        Counted x = new Counted();
        Helper.feed(x, "room 5");
        Check.due("clear", 6, x.clear());
        Check.due("clear twice", 0, x.clear());
        Check.due("nothing to read", -100, x.settings());
        Check.due("feed", 1, x.feed('m'));
    }

    private static void settings() {
        Check.promise(8);
        Counted x = new Counted();
        Check.due("all seven", 7, Helper.set(x, "setup 0;room 1;most 1;writes drop;merge off;shrink off;big 1"));
        Check.due("then", "0 1 1 1 0 0 1", Helper.settings(x));
        Check.due("all seven", 7, Helper.set(x, "big 1024;shrink on;merge on;writes cut;most 12;room 99;setup 99"));
        Check.due("then", "99 99 12 2 1 1 1024", Helper.settings(x));
        Check.due("the latter counts", 3, Helper.set(x, "writes patch;setup 7;setup 08"));
        Check.due("then", "8 99 12 0 1 1 1024", Helper.settings(x));
        Check.due("leading 0", 3, Helper.set(x, "room 01;most 09;big 0010"));
        Check.due("then", "8 1 9 0 1 1 10", Helper.settings(x));
        Check.due("the tape is empty", 0, x.clear());
        x = Helper.with("room 9");
        Check.due("many parts", 20, Helper.set(x, "most 1;".repeat(19) + "most 11"));
        Check.due("160 bytes", 18, Helper.set(x, "merge on;".repeat(16) + "big 1;writes cut"));
        Check.due("then", "10 9 11 2 1 1 1", Helper.settings(x));
        Check.due("a fault behind others", -113, Helper.set(x, "setup 9;room x"));
        Check.due("one alone", 1, Helper.set(x, "room 6"));
        Check.due("then", "10 6 11 2 1 1 1", Helper.settings(x));
    }

    private static void settingsFault(String text, int place) {
        Counted x = new Counted();
        Check.due("settings " + text, -100 - place, Helper.set(x, text));
        Check.due("nothing by " + text, "10 40 12 0 1 1 1024", Helper.settings(x));
        Check.due("the tape by " + text, 0, x.clear());
    }

    private static void settingsFaults() {
        Check.promise(8);
        settingsFault("", 0);
        settingsFault("setups 5", 0);
        settingsFault("set 5", 0);
        settingsFault(" setup 5", 0);
        settingsFault("5", 0);
        settingsFault("setup", 5);
        settingsFault("setup5", 5);
        settingsFault("setup  5", 6);
        settingsFault("setup ", 6);
        settingsFault("setup x", 6);
        settingsFault("setup -1", 6);
        settingsFault("setup 100", 8);
        settingsFault("setup 5 ", 7);
        settingsFault("setup 5;", 8);
        settingsFault("setup 5;;", 8);
        settingsFault("setup 5; room 5", 8);
        settingsFault("setup 5;rooms 5", 8);
        settingsFault("betup 5", 0);
        settingsFault("most 100", 7);
        settingsFault("room 100", 7);
        settingsFault("room 00", 5);
        settingsFault("room 0;", 5);
        settingsFault("most 13", 5);
        settingsFault("most 0", 5);
        settingsFault("most 12x", 7);
        settingsFault("big 0", 4);
        settingsFault("big 1025", 4);
        settingsFault("big 10240", 8);
        settingsFault("big 00001", 4);
        settingsFault("writes ", 7);
        settingsFault("writes 1", 7);
        settingsFault("writes cuts", 7);
        settingsFault("writes cut5", 10);
        settingsFault("writes on", 7);
        settingsFault("merge patch", 6);
        settingsFault("merge onn", 6);
        settingsFault("merge O", 6);
        settingsFault("shrink of", 7);
        settingsFault("shrink off,", 10);
    }

    private static void settingsTrim() {
        Check.promise(8);
        Counted x = new Counted();
        Helper.load(x, "0-1,0-1;5-6,5-6;9-9,9-9");
        Check.due("most 2", 1, Helper.set(x, "most 2"));
        Check.due("the least number goes", "5-6,5-6 9-9,9-9", Helper.boxes(x));
        Check.due("a fault", -106, Helper.set(x, "most 1,"));
        Check.due("regions", 2, x.told(0));
        Check.due("trimmed behind all", 2, Helper.set(x, "most 1;most 3"));
        Check.due("regions", 2, x.told(0));
        Check.due("room 1", 1, Helper.set(x, "room 1"));
        Check.due("regions", 1, x.told(0));
        Check.due("EVICTED", 2, x.told(4));
    }

    private static void setting() {
        Check.promise(9);
        Counted x = new Counted();
        Check.due("-1", -1, x.setting(-1));
        Check.due("7", -1, x.setting(7));
        Helper.set(x, "setup 1;room 2;most 3;writes cut;merge off;shrink off;big 77");
        Check.due("all", "1 2 3 2 0 0 77", Helper.settings(x));
        Helper.set(x, "writes drop;merge on");
        Check.due("all", "1 2 3 1 1 0 77", Helper.settings(x));
    }

    /** Rows 0 .. 3 with worths 5, -7, 5, 8 at (1,1), (1,9), (20,1), (31,31). */
    private static Counted rows() {
        Counted x = new Counted();
        x.put(0, 1, 1, 5);
        x.put(1, 1, 9, -7);
        x.put(2, 20, 1, 5);
        x.put(3, 31, 31, 8);
        return x;
    }

    private static void runs() {
        Check.promise(10);
        Counted x = rows();
        Check.due("seven", 7, Helper.run(x, "count * *;sum * *;least * *;most * *;mean * *;span * *;kinds * *"));
        long[] due = {4, 11, -7, 8, 2, 15, 3};
        for (int i = 0; i < due.length; i++) Check.due("answer " + i, due[i], x.answer(i));
        Check.due("the tape is empty", 0, x.clear());
        Check.due("one ask", 1, x.told(2));
        Check.due("hits", 6, x.region(0, 5));
        Check.due("ranges", 5, Helper.run(x, "sum 1 1;sum 1 0-9;sum 01-20 1;sum 31 31-31;sum 0-00 *"));
        long[] sums = {5, -2, 10, 8, 0};
        for (int i = 0; i < sums.length; i++) Check.due("answer " + i, sums[i], x.answer(i));
        Check.due("eight", 8, Helper.run(x, "sum * *;".repeat(7) + "sum 1 *"));
        Check.due("the eighth", -2, x.answer(7));
        Check.due("mean is rounded down", 1, Helper.run(x, "mean 1 *"));
        Check.due("mean", -1, x.answer(0));
        x.put(4, 1, 1, -1);
        Helper.run(x, "mean 1 *");
        Check.due("mean of 5 -1 -7", -1, x.answer(0));
        x.put(4, 1, 1, 0);
        Helper.run(x, "mean 1 *");
        Check.due("mean of 5 0 -7", -1, x.answer(0));
    }

    private static void runsInOrder() {
        Check.promise(10);
        Counted x = rows();
        Helper.run(x, "sum 0-3 0-3;sum 0-5 0-3;sum 0-3 0-3 if x=9");
        Check.due("asked", 2, x.told(2));
        Check.due("one region", "0:0-5,0-3*2@0-3,0-3=16500", Helper.regions(x));
        Check.due("the find of the last one", 0, x.find(-1));
        Check.due("answer", 0, x.answer(2));
        Helper.run(x, "kinds * * if w>0;least 0-3 * if w=-7");
        Check.due("found", "1", Helper.found(x));
        Check.due("kinds", 2, x.answer(0));
        Check.due("least", -7, x.answer(1));
    }

    private static void condition(String e, String found) {
        Counted x = rows();
        Check.due("count if " + e, 1, Helper.run(x, "count * * if " + e));
        Check.due("found if " + e, found, Helper.found(x));
        Check.due("asked by its box", "0-31,0-31", Helper.boxes(x));
    }

    private static void conditions() {
        Check.promise(10);
        condition("x=1", "0 1");
        condition("x<20", "0 1");
        condition("x>1", "2 3");
        condition("y=31", "3");
        condition("y>8", "1 3");
        condition("w=5", "0 2");
        condition("w>-7", "0 2 3");
        condition("w<-6", "1");
        condition("w=-07", "1");
        condition("r=-0", "0");
        condition("r>1", "2 3");
        condition("r<999999999", "0 1 2 3");
        condition("r>-999999999", "0 1 2 3");
        condition("x=1&y=1", "0");
        condition("x=1|w=8", "0 1 3");
        condition("w=8|x=1&y=1", "0 3");
        condition("x=1&y=1|w=8", "0 3");
        condition("(w=8|x=1)&y>5", "1 3");
        condition("!x=1", "2 3");
        condition("!x=1&y=1", "2");
        condition("!(x=1&y=1)", "1 2 3");
        condition("!!x=1", "0 1");
        condition("!!!!x=1", "0 1");
        condition("((((x=1))))", "0 1");
        condition("!(!(x=1))", "0 1");
        condition("!(!(x=1))&!(!(y=1))", "0");
        condition("r=0|r=1|r=2&x=20", "0 1 2");
    }

    private static void runFault(String text, int place) {
        Counted x = rows();
        Helper.run(x, "sum * *");
        Check.due("run " + text, -100 - place, Helper.run(x, text));
        Check.due("the answer stays by " + text, 11, x.answer(0));
        Check.due("no other by " + text, NO, x.answer(1));
        Check.due("hits by " + text, 0, x.region(0, 5));
        Check.due("the tape by " + text, 0, x.clear());
    }

    private static void runFaults() {
        Check.promise(10);
        runFault("", 0);
        runFault("summ * *", 0);
        runFault("su * *", 0);
        runFault("Sum * *", 0);
        runFault("bum * *", 0);
        runFault("sumz * *", 0);
        runFault("sum", 3);
        runFault("sum*", 3);
        runFault("sum ", 4);
        runFault("sum  *", 4);
        runFault("sum -1 *", 4);
        runFault("sum *", 5);
        runFault("sum **", 5);
        runFault("sum *-3 *", 5);
        runFault("sum 32 *", 4);
        runFault("sum 99", 4);
        runFault("sum 311 *", 6);
        runFault("sum 001 *", 6);
        runFault("sum 3-", 6);
        runFault("sum 3-x", 6);
        runFault("sum 3-2 *", 6);
        runFault("sum 3-32 *", 6);
        runFault("sum 3-311 *", 8);
        runFault("sum 3-* *", 6);
        runFault("sum 3--4 *", 6);
        runFault("sum * 32", 6);
        runFault("sum * 4-3", 8);
        runFault("sum * *;", 8);
        runFault("sum * *x", 7);
        runFault("sum * *;sum * 40", 14);
        runFault("sum * *;;", 8);
        runFault("sum * *; sum * *", 8);
        runFault("sum * * ", 8);
        runFault("sum * *  if x=1", 8);
        runFault("sum * * x", 8);
        runFault("sum * * iff x=1", 8);
        runFault("sum * * i", 8);
        runFault("sum * * if", 10);
        runFault("sum * * if;", 10);
        runFault("sum * *;".repeat(8), 63);
        runFault("sum * *;".repeat(8) + "sum * *", 63);
    }

    private static void conditionFault(String e, int place) {
        runFault("sum * * if " + e, 11 + place);
    }

    private static void conditionFaults() {
        Check.promise(10);
        conditionFault("", 0);
        conditionFault(" x=1", 0);
        conditionFault("z=1", 0);
        conditionFault("xy=1", 1);
        conditionFault("x", 1);
        conditionFault("x-1", 1);
        conditionFault("x=", 2);
        conditionFault("x=-", 3);
        conditionFault("x=--1", 3);
        conditionFault("x=a", 2);
        conditionFault("x<=1", 2);
        conditionFault("x=1 ", 3);
        conditionFault("x=1&", 4);
        conditionFault("x=1|", 4);
        conditionFault("x=1||y=1", 4);
        conditionFault("x=1)", 3);
        conditionFault("(x=1", 4);
        conditionFault("(x=1;", 4);
        conditionFault("()", 1);
        conditionFault("!", 1);
        conditionFault("x=1!", 3);
        conditionFault("x=1234567890", 11);
        conditionFault("x=-1234567890", 12);
        conditionFault("!!!!!x=1", 4);
        conditionFault("(((((x=1)))))", 4);
        conditionFault("!(!(!x=1))", 4);
        conditionFault("!(!(x=1&(x=1)))", 8);
    }

    private static void answers() {
        Check.promise(11);
        Counted x = rows();
        Check.due("none yet", NO, x.answer(0));
        Helper.run(x, "sum * *;count * *;least 5 5");
        Check.due("0", 11, x.answer(0));
        Check.due("1", 4, x.answer(1));
        Check.due("nothing to measure", NO, x.answer(2));
        Check.due("3", NO, x.answer(3));
        Check.due("-1", NO, x.answer(-1));
        Check.due("most", NO, x.answer(Integer.MAX_VALUE));
        x.query(0, 0, 0, 0, 0);
        Check.due("a query by numbers", 11, x.answer(0));
        x.image();
        Helper.run(x, "count 1 *");
        Check.due("of the latest text", 2, x.answer(0));
        Check.due("fewer", NO, x.answer(1));
        x.undo();
        Check.due("not in the image", 2, x.answer(0));
    }

    private static void spells() {
        Check.promise(12);
        Counted x = Helper.with("merge off");
        Check.due("no regions", 0, x.spell());
        Check.due("nothing", "", Helper.paper(x));
        Helper.load(x, "03-10,0-00;31-31,30-31");
        Check.due("two", 20, x.spell());
        Check.due("the paper", "3-10,0-0;31-31,30-31", Helper.paper(x));
        Check.due("its bytes", 20, x.told(10));
        x.flush();
        Check.due("stays", 20, x.told(10));
        Check.due("nothing again", 0, x.spell());
        Check.due("nothing again", -1, x.paper(0));
    }

    private static void loads() {
        Check.promise(13);
        Counted x = new Counted();
        x.put(0, 5, 5, 1);
        Check.due("three of four", 3, Helper.load(x, "0-4,0-4;4-6,4-6;5-5,0-9;10-31,31-31"));
        Check.due("not merged", "0:0-4,0-4*0@none=10000 1:5-5,0-9*0@none=5500 2:10-31,31-31*0@none=10000",
            Helper.regions(x));
        Check.due("ASKS", 3, x.told(2));
        Check.due("PAID", 31, x.told(3));
        Check.due("the tape is empty", 0, x.clear());
        Check.due("none of one", 0, Helper.load(x, "0-31,0-31"));
        Check.due("ASKS", 3, x.told(2));
        x.flush();
        Check.due("once more", 1, Helper.load(x, "0-0,0-0"));
        Check.due("that alone", "0-0,0-0", Helper.boxes(x));
        x = Helper.with("big 1;most 2");
        Check.due("big and most do not count", 3, Helper.load(x, "0-4,0-4;5-9,0-4;10-14,0-4"));
        Check.due("trimmed behind all", "5-9,0-4 10-14,0-4", Helper.boxes(x));
        Check.due("EVICTED", 1, x.told(4));
        x = new Counted();
        StringBuilder twelve = new StringBuilder();
        for (int i = 0; i < 12; i++) twelve.append(i > 0 ? ";" : "").append(i + "-" + i + ",0-0");
        Check.due("twelve", 12, Helper.load(x, twelve.toString()));
        Check.due("a spelling", twelve.length(), x.spell());
        Check.due("is what was loaded", twelve.toString(), Helper.paper(x));
        x.flush();
        Check.due("thirteen", -100 - twelve.length(), Helper.load(x, twelve + ";20-20,0-0"));
        Check.due("none then", 0, x.told(0));
    }

    private static void loadFault(String text, int place) {
        Counted x = new Counted();
        Check.due("load " + text, -100 - place, Helper.load(x, text));
        Check.due("nothing by " + text, 0, x.told(0) + x.told(2));
        Check.due("the tape by " + text, 0, x.clear());
    }

    private static void loadFaults() {
        Check.promise(13);
        loadFault("", 0);
        loadFault("x", 0);
        loadFault("*,0-0", 0);
        loadFault("1", 1);
        loadFault("1,0-0", 1);
        loadFault("32-32,0-0", 0);
        loadFault("1-0,0-0", 2);
        loadFault("1-32,0-0", 2);
        loadFault("1-311,0-0", 4);
        loadFault("1-3 0-0", 3);
        loadFault("1-3,", 4);
        loadFault("1-3,5", 5);
        loadFault("1-3,5-4", 6);
        loadFault("1-3,40-4", 4);
        loadFault("1-3,32-32", 4);
        loadFault("1-3,4-32", 6);
        loadFault("001-3,4-5", 2);
        loadFault("1-3,004-5", 6);
        loadFault("1-3,0-005", 8);
        loadFault("1-3,4-5 ", 7);
        loadFault("1-3,4-5;", 8);
        loadFault("1-3,4-5;;", 8);
        loadFault("1-3,4-5; 6-6,6-6", 8);
    }

    private static void explains() {
        Check.promise(14);
        Counted x = Helper.with("merge off");
        x.put(0, 7, 7, 1);
        Helper.load(x, "2-3,2-3;9-9,9-9;5-8,2-8");
        String due = "have 0 3-3,3-3;have 2 5-6,3-8;ask 3-6,9-10 10;ask 3-4,4-8 10;ask 4-4,3-3 10;pay 30";
        Check.due("two had", due.length(), x.explain(3, 6, 3, 10));
        Check.due("two had", due, Helper.paper(x));
        Check.due("nothing is asked", 3, x.told(2));
        Check.due("no hits", 0, x.region(0, 5));
        Check.due("all had", 20, x.explain(9, 9, 9, 9));
        Check.due("all had", "have 1 9-9,9-9;pay 0", Helper.paper(x));
        x.explain(7, 7, 7, 31);
        Check.due("a row asked", "have 2 7-7,7-8;ask 7-7,9-31 10;pay 10", Helper.paper(x));
        x.flush();
        x.explain(7, 7, 7, 31);
        Check.due("a row asked", "ask 7-7,7-31 11;pay 11", Helper.paper(x));
        int[][] bad = {{-1, 0, 0, 0}, {0, 32, 0, 0}, {0, 0, -1, 0}, {0, 0, 0, 32}, {1, 0, 0, 0}, {0, 0, 1, 0}};
        for (int[] b : bad) Check.due("no box", -2, x.explain(b[0], b[1], b[2], b[3]));
        Check.due("the paper stays", 22, x.told(10));
    }

    private static void papers() {
        Check.promise(15);
        Counted x = new Counted();
        Check.due("nothing", -1, x.paper(0));
        x.query(0, 0, 3, 4, 5);
        Check.due("spell", 7, x.spell());
        Check.due("0", '0', x.paper(0));
        Check.due("1", '-', x.paper(1));
        Check.due("3", ',', x.paper(3));
        Check.due("6", '5', x.paper(6));
        Check.due("7", -1, x.paper(7));
        Check.due("-1", -1, x.paper(-1));
        Check.due("most", -1, x.paper(Integer.MAX_VALUE));
        x.image();
        x.explain(0, 0, 4, 4);
        x.undo();
        Check.due("not in the image", 'h', x.paper(0));
    }
}
