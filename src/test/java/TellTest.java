import java.util.List;

/** Terms 4 and 5, sentence by sentence: measures, queries as texts, the find, the tape, faults, settings, spelling. */
public final class TellTest {
    private static final long NO = RangeAnswers.NO, OVER = RangeAnswers.OVER, MAX = Long.MAX_VALUE;
    private static final long LEAST_WORTH = Long.MIN_VALUE + 2;
    private static final String[] VERBS = {"count", "sum", "least", "most", "mean", "span", "kinds"};

    public static void main(String[] args) {
        noRows();
        sums();
        means();
        spans();
        kinds();
        verbs();
        ranges();
        rangesRefused();
        tests();
        testNumbers();
        precedence();
        depth();
        conditionIsOfTheMeasure();
        allTheRows();
        theFind();
        tape();
        parts();
        words();
        numbers();
        strangeBytes();
        everyPrefix();
        faultDoesNothing();
        oneBlank();
        settingNumbers();
        settingTwice();
        settingsTrim();
        eightQueries();
        answers();
        spelling();
        loading();
        loadingTwelve();
        paper();
        explained();
        Check.end();
    }

    /** Rows 0, 1, .. with these worths at (0,0), (1,0), .. */
    private static Counted with(long... worths) {
        Counted x = new Counted();
        for (int r = 0; r < worths.length; r++) x.put(r, r % 32, r / 32, worths[r]);
        return x;
    }

    private static long measured(int measure, long... worths) {
        long byNumbers = with(worths).query(measure, 0, 31, 0, 31);
        Counted x = with(worths);
        Helper.run(x, VERBS[measure] + " * *");
        Check.due(VERBS[measure] + " as a text", byNumbers, x.answer(0));
        x = with(worths);
        x.watch(measure, 0, 31, 0, 31);
        Check.due(VERBS[measure] + " watched", byNumbers, x.value(0));
        return byNumbers;
    }

    private static void noRows() {
        Check.says("NO for 2 to 5, if there are no ROWS");
        long[] due = {0, 0, NO, NO, NO, NO, 0};
        for (int m = 0; m < 7; m++) {
            Check.due(VERBS[m], due[m], measured(m));
            Counted x = with(5);
            Helper.run(x, VERBS[m] + " * * if w>5");
            Check.due(VERBS[m] + " of none for which E holds", due[m], x.answer(0));
        }
        Check.says("no such measure");
        for (int m : new int[] {-1, 7, 8, Integer.MIN_VALUE, Integer.MAX_VALUE}) {
            Counted x = with(5);
            Check.due("query " + m, NO, x.query(m, 0, 31, 0, 31));
            Check.due("watch " + m, -1, x.watch(m, 0, 31, 0, 31));
            Check.due("nothing asked", 0, x.told(2));
        }
    }

    private static void sums() {
        Check.says("sum: of WORTHS, ROW by ROW; OVER, if one so far can't be a long");
        Check.due("just the most", MAX, measured(1, MAX - 1, 1));
        Check.due("one above it", OVER, measured(1, MAX, 1));
        Check.due("above it on the way", OVER, measured(1, MAX, 1, -5));
        Check.due("in another order", MAX - 4, measured(1, -5, MAX, 1));
        Check.due("just the least", Long.MIN_VALUE, measured(1, LEAST_WORTH, -2));
        Check.due("one below it", OVER, measured(1, LEAST_WORTH, -3));
        Check.due("below it on the way", OVER, measured(1, LEAST_WORTH, -3, 9));
        Check.due("all the way round", OVER, measured(1, MAX, MAX, 2));
        Check.due("all the way round", OVER, measured(1, LEAST_WORTH, LEAST_WORTH, -4));
        Check.due("0 at the end", MAX, measured(1, MAX, 0, 0));
        Check.due("there and back", 0, measured(1, MAX, -MAX + 1, -1));
        Check.due("one", LEAST_WORTH, measured(1, LEAST_WORTH));
    }

    private static void means() {
        Check.says("mean: the sum by how many (rounded down; OVER likewise)");
        Check.due("3 by 2", 1, measured(4, 1, 2));
        Check.due("-3 by 2", -2, measured(4, -1, -2));
        Check.due("-1 by 3", -1, measured(4, -1, 0, 0));
        Check.due("-4 by 2", -2, measured(4, -1, -3));
        Check.due("1 by 3", 0, measured(4, 1, 0, 0));
        Check.due("over", OVER, measured(4, MAX, MAX));
        Check.due("over on the way", OVER, measured(4, MAX, 1, -1));
        Check.due("the least sum by 2", Long.MIN_VALUE / 2, measured(4, LEAST_WORTH, -2));
        Check.due("one", LEAST_WORTH, measured(4, LEAST_WORTH));
    }

    private static void spans() {
        Check.says("span: the most less the least; OVER, if it can't be a long");
        Check.due("just the most", MAX, measured(5, MAX, 0));
        Check.due("one above it", OVER, measured(5, MAX, -1));
        Check.due("just the most", MAX, measured(5, -3, MAX - 3));
        Check.due("the widest", OVER, measured(5, LEAST_WORTH, MAX));
        Check.due("below 0", MAX, measured(5, LEAST_WORTH, 1));
        Check.due("below 0", OVER, measured(5, LEAST_WORTH, 2));
        Check.due("alike", 0, measured(5, LEAST_WORTH, LEAST_WORTH));
        Check.due("one", 0, measured(5, MAX));
    }

    private static void kinds() {
        Check.says("kinds: how many unlike WORTHS");
        Check.due("one", 1, measured(6, 7));
        Check.due("alike", 1, measured(6, 7, 7, 7));
        Check.due("two", 2, measured(6, 7, -7, 7, -7));
        Check.due("ends", 3, measured(6, MAX, LEAST_WORTH, 0, MAX, LEAST_WORTH));
        long[] worths = new long[60];
        for (int i = 0; i < 60; i++) worths[i] = i;
        Check.due("all the rows", 60, measured(6, worths));
        worths[59] = 0;
        Check.due("the last like the first", 59, measured(6, worths));
    }

    private static int fault(String text) {
        Counted x = with(3, 4);
        Helper.feed(x, text);
        int answer = x.run();
        return answer > 0 ? answer : -100 - answer;
    }

    private static void verbs() {
        Check.says("VERB: one of count, sum, least, most, mean, span, kinds");
        long[] due = {3, 4, -1, 4, 1, 5, 3};
        for (int m = 0; m < 7; m++) {
            Counted x = with(4, -1, 1);
            Check.due(VERBS[m], 1, Helper.run(x, VERBS[m] + " * *"));
            Check.due(VERBS[m], due[m], x.answer(0));
            Check.due(VERBS[m] + "s", 0, fault(VERBS[m] + "s * *"));
            Check.due("all but its last", 0, fault(VERBS[m].substring(0, VERBS[m].length() - 1) + " * *"));
            Check.due("all but its first", 0, fault(VERBS[m].substring(1) + " * *"));
            Check.due("its end", VERBS[m].length(), fault(VERBS[m]));
        }
        Check.due("two in one", 0, fault("countsum * *"));
        Check.due("a setting's word", 0, fault("room 5"));
    }

    private static void ranges() {
        Check.says("RANGE: * (0 to 31), n, or n-m; n and m of 1 or 2 figures, 0 .. 31, m not less than n");
        String[][] due = {{"*", "0-31"}, {"0", "0-0"}, {"31", "31-31"}, {"00", "0-0"}, {"07", "7-7"}, {"0-31", "0-31"},
            {"0-0", "0-0"}, {"31-31", "31-31"}, {"5-05", "5-5"}, {"05-5", "5-5"}, {"9-10", "9-10"}, {"30-31", "30-31"}};
        for (String[] d : due) {
            Counted x = new Counted();
            Check.due("x " + d[0], 1, Helper.run(x, "count " + d[0] + " 8"));
            Check.due("x " + d[0], d[1] + ",8-8", Helper.boxes(x));
            x = new Counted();
            Check.due("y " + d[0], 1, Helper.run(x, "count 8 " + d[0]));
            Check.due("y " + d[0], "8-8," + d[1], Helper.boxes(x));
        }
    }

    private static void rangesRefused() {
        Check.says("a number that may not be, where that begins; otherwise the first byte with which no such text goes on");
        String[] bad = {"32", "99", "32-33", "1-0", "31-30", "10-9", "0-32", "5-99", "-1", "1-", "1-*", "*-3", "001",
            "0-031", "x", "", "1--2", "1-2-3", "*1", "1*", "+1"};
        int[] place = {0, 0, 0, 2, 3, 3, 2, 2, 0, 2, 2, 1, 2, 4, 0, 0, 2, 3, 1, 1, 0};
        for (int i = 0; i < bad.length; i++) {
            Check.due("x " + bad[i], 6 + place[i], fault("count " + bad[i] + " *"));
            Check.due("y " + bad[i], 8 + place[i], fault("count * " + bad[i]));
            Check.due("y " + bad[i] + ";", 8 + place[i], fault("count * " + bad[i] + ";count * *"));
        }
    }

    /** Which of rows 0 .. 3 are found; these lie at (0,31), (1,2), (2,1), (31,0) with the worths -1, 0, 1, 31. */
    private static String holds(String e) {
        Counted x = new Counted();
        int[][] rows = {{0, 31, -1}, {1, 2, 0}, {2, 1, 1}, {31, 0, 31}};
        for (int r = 0; r < 4; r++) x.put(r, rows[r][0], rows[r][1], rows[r][2]);
        int answer = Helper.run(x, "count * * if " + e);
        return answer == 1 ? Helper.found(x) : "fault " + (-100 - answer);
    }

    private static void tests() {
        Check.says("a TEST: a letter, < or = or >, a number; w the WORTH, x, y the PLACE, r the number of the ROW");
        String[][] due = {
            {"w<0", "0"}, {"w=0", "1"}, {"w>0", "2 3"}, {"w<-1", ""}, {"w=-1", "0"}, {"w>-1", "1 2 3"}, {"w>30", "3"},
            {"x<1", "0"}, {"x=1", "1"}, {"x>1", "2 3"}, {"x=31", "3"}, {"x<0", ""}, {"x>31", ""}, {"x<32", "0 1 2 3"},
            {"y<1", "3"}, {"y=1", "2"}, {"y>1", "0 1"}, {"y=31", "0"}, {"y>-1", "0 1 2 3"},
            {"r<1", "0"}, {"r=1", "1"}, {"r>1", "2 3"}, {"r<0", ""}, {"r>3", ""}};
        for (String[] d : due) Check.due(d[0], d[1], holds(d[0]));
    }

    private static void testNumbers() {
        Check.says("a number of 1 to 9 figures, - ahead of these, if one likes");
        Check.due("9 figures", "0 1 2 3", holds("w<999999999"));
        Check.due("9 figures", "0 1 2 3", holds("w>-999999999"));
        Check.due("9 figures", "2", holds("w=000000001"));
        Check.due("-0", "1", holds("w=-0"));
        Check.due("10 figures", "fault 24", holds("w=0000000001"));
        Check.due("10 figures", "fault 25", holds("w=-0000000001"));
        Check.due("none", "fault 15", holds("w="));
        Check.due("- alone", "fault 16", holds("w=-"));
        Check.due("- twice", "fault 16", holds("w=--1"));
        Check.due("+", "fault 15", holds("w=+1"));
        Counted x = with(999999999, -999999999, 1000000000, -1000000000, MAX, LEAST_WORTH);
        Helper.run(x, "count * * if w>999999998");
        Check.due("above", "0 2 4", Helper.found(x));
        Helper.run(x, "count * * if w=999999999");
        Check.due("the most", "0", Helper.found(x));
        Helper.run(x, "count * * if w=-999999999");
        Check.due("the least", "1", Helper.found(x));
        Helper.run(x, "count * * if w<-999999999");
        Check.due("below", "3 5", Helper.found(x));
        Helper.run(x, "count * * if w>999999999");
        Check.due("above all numbers", "2 4", Helper.found(x));
    }

    private static void precedence() {
        Check.says("E: T or T|E. T: F or F&T. F: !F, (E), or a TEST");
        String[][] due = {{"x=0|x=1&x=2", "0"}, {"x=1&x=2|x=0", "0"}, {"(x=0|x=1)&x=1", "1"}, {"x=1&(x=0|x=1)", "1"},
            {"!x=0&x=1", "1"}, {"!(x=0&x=1)", "0 1 2 3"}, {"!x=0|x=0", "0 1 2 3"}, {"!(x=0|x=1)", "2 3"},
            {"x=0|x=1|x=2|x=31", "0 1 2 3"}, {"x>0&x>1&x>2", "3"}, {"!!x=0", "0"}, {"!!!x=0", "1 2 3"},
            {"x=0|!x=0&y=0", "0 3"}, {"(x=0)", "0"}, {"((x=0)|(x=1))&(y=2)", "1"}};
        for (String[] d : due) Check.due(d[0], d[1], holds(d[0]));
        Check.due("no F behind &", "fault 17", holds("x=0&"));
        Check.due("no T behind |", "fault 17", holds("x=0|"));
        Check.due("& ahead", "fault 13", holds("&x=0"));
        Check.due("a blank", "fault 16", holds("x=0 &x=1"));
        Check.due("! behind", "fault 16", holds("x=0!"));
        Check.due("( not ended", "fault 17", holds("(x=0"));
        Check.due(") too many", "fault 18", holds("(x=0))"));
        Check.due("( of nothing", "fault 14", holds("()"));
        Check.due("! of nothing", "fault 14", holds("!"));
        Check.due("in ( a ; ", "fault 17", holds("(x=0;x=1)"));
        Check.due("no | between", "fault 16", holds("x=0x=1"));
        Check.due("( ahead of a TEST's end", "fault 16", holds("x=0(x=1)"));
    }

    private static void depth() {
        Check.says("A ( or ! within 4 others of these is none");
        String[] four = {"!!!!x=0", "((((x=0))))", "!(!(x=0))", "(!(!x=0))", "!!((x=0))", "((!!x=0))", "(((!(x=0))))"};
        String[] found = {"0", "0", "0", "0", "0", "0", "fault 17"};
        for (int i = 0; i < four.length; i++) Check.due(four[i], found[i], holds(four[i]));
        String[] five = {"!!!!!x=0", "(((((x=0)))))", "!(!(!x=0))", "((((!x=0))))", "!!!!(x=0)", "x=0|((((!x=0))))",
            "((((x=0|(x=0)))))", "((((x=0&!x=0))))"};
        int[] place = {4, 4, 4, 4, 4, 8, 8, 8};
        for (int i = 0; i < five.length; i++) Check.due(five[i], "fault " + (13 + place[i]), holds(five[i]));
        Check.due("beside four others", "0", holds("((((x=0))))&((((y=31))))"));
        Check.due("beside four others", "0 1 2 3", holds("!!!!x=0|!!!x=0"));
        Check.due("behind four others", "0", holds("((((x=0)))&(y=31))"));
        Check.due("behind a !", "0 1", holds("((!!x=0|(x=1)))"));
        Check.due("the deepest have all of E", "0 1", holds("((((x=0|x=1&y=2))))"));
    }

    private static void conditionIsOfTheMeasure() {
        Check.says("what is asked, kept and paid goes by its BOX alone");
        Counted x = with(1, 2, 3);
        Check.due("run", 1, Helper.run(x, "sum 0-9 0-9 if w>2"));
        Check.due("the MEASURE", 3, x.answer(0));
        Check.due("asked", 1, x.told(2));
        Check.due("paid", 13, x.told(3));
        Check.due("kept", "0:0-9,0-9*0@none=3250", Helper.regions(x));
        Helper.run(x, "sum 2-3 0-1 if w>99");
        Check.due("hit", "0:0-9,0-9*1@2-3,0-1=6500", Helper.regions(x));
        Check.says("all, if there is none");
        Helper.run(x, "sum 0-9 0-9");
        Check.due("all", 6, x.answer(0));
    }

    private static void allTheRows() {
        Check.says("THE STORE has ROWS 0 .. 59");
        long[] worths = new long[60];
        for (int r = 0; r < 60; r++) worths[r] = r - 30;
        Counted x = with(worths);
        Helper.run(x, "count * * if r<60;sum * * if w>28|w<-29|r=30;count * *");
        long[] due = {60, -1, 60};
        for (int i = 0; i < 3; i++) Check.due("answer " + i, due[i], x.answer(i));
        for (int i : new int[] {60, 61, 64}) Check.due("find " + i, -1, x.find(i));
        x = with(worths);
        Helper.run(x, "count * * if w=29|w=-30");
        Check.due("the first and the last", "0 59", Helper.found(x));
    }

    private static void theFind() {
        Check.says("THE FIND: those ROWS of the latest QUERY done, as they were then (none at first)");
        Counted x = with(5, 6, 7);
        Check.due("none at first", 0, x.find(-1));
        Check.due("none at first", -1, x.find(0));
        Helper.run(x, "count * *;count * * if w>5;least 1 0");
        Check.due("of the latest", "1", Helper.found(x));
        Helper.run(x, "count * *;count * * if w=5;kinds 30 30");
        Check.due("of the latest: none", "", Helper.found(x));
        Check.due("find 0", -1, x.find(0));
        Helper.run(x, "count * * if w>5");
        Helper.run(x, "count * * if w>");
        x.query(7, 0, 0, 0, 0);
        x.query(0, 1, 0, 0, 0);
        Check.due("none was done since", "1 2", Helper.found(x));
        x.list(0, 2);
        x.put(1, 9, 9, 60);
        x.take(2);
        Check.due("as they were then", "1 2", Helper.found(x));
        Check.due("as they were then", 2, x.lay(0, 0));
        Check.due("their WORTHS", "6 7", Helper.list(x, 0));
        for (int i : new int[] {-2, 2, 3, 60, Integer.MIN_VALUE, Integer.MAX_VALUE}) Check.due("find " + i, -1, x.find(i));
    }

    private static void tape() {
        Check.says("THE TAPE holds 0 .. 160 bytes");
        Counted x = new Counted();
        Check.due("0", 0, x.clear());
        for (int i = 1; i <= 160; i++) Check.due("feed", i, x.feed(i % 127 + 1));
        for (int i = 0; i < 3; i++) Check.due("full", -4, x.feed('a'));
        for (int bad : new int[] {0, 128, -1, 256 + 'a', -256 + 'a', Integer.MIN_VALUE}) {
            Check.due("BAD, as it is the first that is named", -2, x.feed(bad));
        }
        Check.due("160", 160, x.clear());
        Check.due("from the begin again", 1, x.feed(127));
        Check.due("1", 1, x.clear());
        x = new Counted();
        String text = "count * * if w<1" + "|w<1".repeat(36);
        Check.due("160 bytes", 160, text.length());
        Check.due("are read to the last", 1, Helper.run(x, text));
        Helper.feed(x, text.substring(0, 159));
        Check.due("one ahead of the end", -259, x.run());
        Helper.feed(x, text.substring(0, 158));
        x.feed('<');
        x.feed('=');
        Check.due("a fault at the last", -259, x.run());
    }

    private static void parts() {
        Check.says("Texts on THE TAPE are one or more parts, parted by ;");
        String[] none = {"", ";"};
        for (String t : none) {
            Check.due("settings", -100, Helper.set(new Counted(), t));
            Check.due("run", -100, Helper.run(new Counted(), t));
            Check.due("load", -100, Helper.load(new Counted(), t));
        }
        Check.due("settings ;", -107, Helper.set(new Counted(), "most 3;"));
        Check.due("run ;", -110, Helper.run(new Counted(), "count * *;"));
        Check.due("load ;", -108, Helper.load(new Counted(), "0-0,0-0;"));
        Check.due("settings ;;", -107, Helper.set(new Counted(), "most 3;;most 4"));
        Check.due("run ;;", -110, Helper.run(new Counted(), "count * *;;count * *"));
        Check.due("load ;;", -108, Helper.load(new Counted(), "0-0,0-0;;1-1,1-1"));
        Check.due("settings ,", -106, Helper.set(new Counted(), "most 3,most 4"));
        Check.due("run ,", -109, Helper.run(new Counted(), "count * *,count * *"));
        Check.due("load ,", -107, Helper.load(new Counted(), "0-0,0-0,1-1,1-1"));
    }

    private static int setFault(String text) {
        int answer = Helper.set(new Counted(), text);
        return answer > 0 ? answer : -100 - answer;
    }

    private static int loadFault(String text) {
        int answer = Helper.load(new Counted(), text);
        return answer >= 0 ? answer : -100 - answer;
    }

    private static void words() {
        Check.says("of a WORD that may not stand there (an empty one, too), where that begins");
        String[] settings = {"setup", "room", "most", "big"};
        for (String w : settings) {
            Check.due(w + " longer", 0, setFault(w + "x 5"));
            Check.due(w + " shorter", 0, setFault(w.substring(0, w.length() - 1) + " 5"));
            Check.due(w + " behind another", 7, setFault("most 3;" + w + "x 5"));
            Check.due(w + " great", 0, setFault(w.toUpperCase() + " 5"));
            Check.due(w + ", a WORD for its number", w.length() + 1, setFault(w + " on"));
        }
        Check.due("an empty one", 0, setFault(" 5"));
        Check.due("an empty one", 0, setFault("5"));
        Check.due("a query's", 0, setFault("count * *"));
        String[] pairs = {"writes on", "writes off", "writes patc", "writes patchy", "writes drops", "writes cu", "writes ",
            "writes 2", "writes ;", "writes CUT"};
        for (String p : pairs) Check.due(p, 7, setFault(p));
        for (String w : new String[] {"merge", "shrink"}) {
            for (String v : new String[] {"o", "of", "offf", "onn", "on on", "cut", "", "1", "ON"}) {
                Check.due(w + " " + v, w.length() + (v.equals("on on") ? 3 : 1), setFault(w + " " + v));
            }
        }
        for (String w : new String[] {"i", "f", "iff", "fi", "is", "", "IF", "x"}) {
            Check.due("if as " + w, 10, fault("count * * " + w + " x=1"));
        }
        Check.due("if alone", 12, fault("count * * if"));
        Check.due("if and no blank", 12, fault("count * * if("));
        Check.due("no blank ahead of if", 9, fault("count * *if x=1"));
    }

    private static void numbers() {
        Check.says("A number is as many figures as stand there, that many at most");
        Check.due("2 figures, then another", 8, setFault("setup 000"));
        Check.due("2 figures, then another", 7, setFault("most 010"));
        Check.due("no such number: where it begins", 5, setFault("most 990"));
        Check.due("4 figures, then another", 8, setFault("big 01024"));
        Check.due("no such number: where it begins", 4, setFault("big 99990"));
        Check.due("4 figures", 1, setFault("big 0001"));
        Check.due("0 of 4 figures", 4, setFault("big 0000"));
        Check.due("1 or 2 figures each", 2, loadFault("031-5,0-0"));
        Check.due("1 or 2 figures each", 0, loadFault("321-5,0-0"));
        Check.due("1 or 2 figures each", 4, loadFault("1-031,0-0"));
        Check.due("1 or 2 figures each", 6, loadFault("1-2,031-31"));
        Check.due("1 or 2 figures each", 8, loadFault("1-2,1-031"));
        Check.due("m not less than n", 2, loadFault("9-8,0-0"));
        Check.due("m not less than n", 6, loadFault("9-9,5-4"));
        Check.due("9 figures, then another", 24, fault("count * * if w=0000000000"));
    }

    private static void strangeBytes() {
        Check.says("the place (from 0) of the first byte with which no such text goes on");
        for (int b = 1; b <= 127; b++) {
            char c = (char) b;
            boolean figure = c >= '0' && c <= '9', letter = c >= 'a' && c <= 'z';
            if (c != ';') {
                Check.due("settings, behind 3 byte " + b, figure ? 5 : 6, setFault("most 3" + c));
                Check.due("settings, behind on byte " + b, letter ? 6 : 8, setFault("merge on" + c));
                Check.due("load, behind 03 byte " + b, 8, loadFault("0-1,2-03" + c));
            }
            if (c != ' ') Check.due("settings, behind room byte " + b, letter ? 0 : 4, setFault("room" + c));
            if (c != '-' && !figure) Check.due("load, first, byte " + b, 1, loadFault("1" + c + "1,1-1"));
            if (c != ';' && c != ' ') Check.due("run, behind * byte " + b, 9, fault("count * *" + c));
            if ("wxyr(!".indexOf(c) < 0) Check.due("run, E of byte " + b, 13, fault("count * * if " + c + "=1"));
            if ("<=>".indexOf(c) < 0) Check.due("run, behind x byte " + b, 14, fault("count * * if x" + c + "1"));
            if ("&|;".indexOf(c) < 0 && !figure) {
                Check.due("run, behind x=1 byte " + b, 16, fault("count * * if x=1" + c + "x=1"));
            }
            if (c != ';' && c != ' ' && c != '-' && !figure) {
                Check.due("run, behind 3 byte " + b, 9, fault("count * 3" + c));
            }
        }
    }

    private static void everyPrefix() {
        Check.says("the length, if it ends too early");
        String text = "count 1-2 3-4 if (x=1|!w<-5)&r>0";
        List<String> ends = List.of("count 1-2 3", "count 1-2 3-4", "count 1-2 3-4 if (x=1|!w<-5)");
        for (int n = 0; n < text.length(); n++) {
            String part = text.substring(0, n);
            boolean isWhole = ends.contains(part);
            boolean isWord = n > 0 && n < 5 || n == 15;
            Check.due(part, isWhole ? 1 : isWord ? n < 5 ? 0 : 14 : n, fault(part));
        }
        Check.due(text, 1, fault(text));
        text = "setup 7;writes cut";
        for (int n = 0; n < text.length(); n++) {
            boolean isWord = n > 0 && n < 5 || n > 8 && n < 14 || n > 15;
            int place = !isWord ? n : n < 5 ? 0 : n < 14 ? 8 : 15;
            Check.due(text.substring(0, n), n == 7 ? 1 : place, setFault(text.substring(0, n)));
        }
        text = "1-2,3-4;5-6,7-8";
        for (int n = 0; n < text.length(); n++) {
            Check.due(text.substring(0, n), n == 7 ? 1 : n, loadFault(text.substring(0, n)));
        }
    }

    private static void faultDoesNothing() {
        Check.says("A text with a FAULT does nothing");
        Counted x = with(1, 2, 3);
        Helper.run(x, "sum 0 *;sum 1 *;count 9 9");
        String before = Helper.imaged(x) + Helper.besides(x);
        Check.due("settings", -114, Helper.set(x, "most 1;room 1;x"));
        Check.due("run", -116, Helper.run(x, "sum * *;count 1 32"));
        Check.due("load", -114, Helper.load(x, "20-20,3-4;1-1,32-32"));
        Check.due("all is as it was", before, Helper.imaged(x) + Helper.besides(x));
        Check.says("THE TAPE is empty behind each call that reads it");
        x = new Counted();
        String[] texts = {"most 3", "most", "count 5 5", "count", "0-0,0-0", "0"};
        for (int i = 0; i < texts.length; i++) {
            Helper.feed(x, texts[i]);
            int answer = i < 2 ? x.settings() : i < 4 ? x.run() : x.load();
            Check.due(texts[i], i % 2 == 0 ? 1 : -100 - texts[i].length(), answer);
            Check.due("empty behind " + texts[i], 0, x.clear());
        }
    }

    private static void oneBlank() {
        Check.says("One blank behind the first WORD");
        String[] words = {"setup", "room", "most", "writes", "merge", "shrink", "big"};
        String[] values = {"5", "5", "5", "cut", "off", "off", "5"};
        for (int i = 0; i < 7; i++) {
            int n = words[i].length();
            Check.due(words[i], 1, setFault(words[i] + " " + values[i]));
            Check.due("two blanks", n + 1, setFault(words[i] + "  " + values[i]));
            Check.due("no blank", values[i].equals("5") ? n : 0, setFault(words[i] + values[i]));
            Check.due("a blank behind", n + 1 + values[i].length(), setFault(words[i] + " " + values[i] + " "));
            Check.due("a blank ahead", 0, setFault(" " + words[i] + " " + values[i]));
            Check.due("-", n, setFault(words[i] + "-" + values[i]));
        }
    }

    private static void settingNumbers() {
        Check.says("setup n (0 .. 99); room n (1 .. 99); most n (1 .. 12); big n (1 .. 1024)");
        String[] words = {"setup", "room", "most", "big"};
        int[] what = {0, 1, 2, 6}, least = {0, 1, 1, 1}, most = {99, 99, 12, 1024}, figures = {2, 2, 2, 4};
        for (int i = 0; i < 4; i++) {
            Counted x = new Counted();
            for (int n : new int[] {least[i], least[i] + 1, most[i] - 1, most[i]}) {
                Check.due(words[i] + " " + n, 1, Helper.set(x, words[i] + " " + n));
                Check.due("setting", n, x.setting(what[i]));
            }
            for (int n : new int[] {least[i] - 1, most[i] + 1}) {
                boolean tooLong = Integer.toString(n).length() > figures[i];
                int place = words[i].length() + 1 + (tooLong ? figures[i] : 0);
                Check.due(words[i] + " " + n, -100 - place, Helper.set(x, words[i] + " " + n));
                Check.due("setting stays", most[i], x.setting(what[i]));
            }
        }
        Check.says("What 0 SETUP, 1 ROOM, 2 MOST, 3 writes (0 patch, 1 drop, 2 cut), 4 merge, 5 shrink (1 on), 6 BIG");
        Counted x = new Counted();
        for (String w : new String[] {"patch 0", "drop 1", "cut 2", "patch 0"}) {
            Helper.set(x, "writes " + w.substring(0, w.length() - 2));
            Check.due(w, w.charAt(w.length() - 1) - '0', x.setting(3));
        }
        for (String w : new String[] {"off", "on"}) {
            Helper.set(x, "merge " + w);
            Check.due("merge " + w, w.length() == 2 ? 1 : 0, x.setting(4));
            Helper.set(x, "shrink " + w);
            Check.due("shrink " + w, w.length() == 2 ? 1 : 0, x.setting(5));
        }
        for (int no : new int[] {-1, 7, 8, Integer.MIN_VALUE, Integer.MAX_VALUE}) Check.due("setting", -1, x.setting(no));
    }

    private static void settingTwice() {
        Check.says("Of what is told twice the latter counts");
        Counted x = new Counted();
        Check.due("parts", 8, Helper.set(x, "setup 1;merge off;setup 2;writes cut;merge on;setup 3;writes drop;big 5"));
        Check.due("settings", "3 40 12 1 1 1 5", Helper.settings(x));
        Check.due("the first is at fault all the same", -105, Helper.set(x, "most 0;most 3"));
        Check.due("settings", "3 40 12 1 1 1 5", Helper.settings(x));
    }

    private static void settingsTrim() {
        Check.says("TRIMMING behind all");
        Counted x = new Counted();
        Helper.load(x, "0-0,0-0;2-2,2-2;4-4,4-4");
        Check.due("most 1, most 3", 2, Helper.set(x, "most 1;most 3"));
        Check.due("none goes", 3, x.told(0));
        Helper.set(x, "room 1;room 3");
        Check.due("none goes", 3, x.told(0));
        Helper.set(x, "room 2");
        Check.due("one goes", "2-2,2-2 4-4,4-4", Helper.boxes(x));
        Helper.set(x, "setup 5;most 1");
        Check.due("one goes", "4-4,4-4", Helper.boxes(x));
        Check.due("LEVEL", 10000, x.told(8));
        x = new Counted();
        x.query(0, 0, 9, 0, 9);
        x.query(0, 0, 1, 0, 1);
        x.put(0, 5, 5, 1);
        Helper.set(x, "room 1;setup 0");
        Check.due("shrunk by the new SETUP", "0:0-1,0-1*0@none=20000", Helper.regions(x));
        x = new Counted();
        x.query(0, 0, 9, 0, 9);
        x.query(0, 0, 1, 0, 1);
        x.put(0, 5, 5, 1);
        Helper.set(x, "room 1;shrink off");
        Check.due("not shrunk", 0, x.told(0));
    }

    private static void eightQueries() {
        Check.says("QUERIES: 8 parts at most (no ; behind the eighth)");
        Counted x = with(1, 2);
        Check.due("eight", 8, Helper.run(x, "count * *;".repeat(7) + "sum * *"));
        Check.due("the eighth", 3, x.answer(7));
        Check.due("hits", 7, x.region(0, 5));
        Check.due("; behind the eighth", -100 - 79, Helper.run(x, "count * *;".repeat(8)));
        Check.due("nine", -100 - 79, Helper.run(x, "count * *;".repeat(8) + "sum * *"));
        Check.due("hits", 7, x.region(0, 5));
        Check.due("a fault behind the ninth's ;", -100 - 79, Helper.run(x, "count * *;".repeat(8) + "x"));
        Check.says("all are read first, then done, one behind the other");
        Check.due("a fault in the third", -100 - 20, Helper.run(x, "count 5 5;count 6 6;counts * *"));
        Check.due("none was done", 1, x.told(2));
    }

    private static void answers() {
        Check.says("ANSWERS are their MEASURES (those of the latest such text; none at first)");
        Counted x = with(1, 2);
        for (int i : new int[] {-1, 0, 1, 7, 8, Integer.MAX_VALUE, Integer.MIN_VALUE}) Check.due("answer", NO, x.answer(i));
        Helper.run(x, "count * *;sum * *;most * *");
        Check.due("2", 2, x.answer(2));
        for (int i : new int[] {-1, 3, 7, 8, Integer.MAX_VALUE, Integer.MIN_VALUE}) Check.due("answer", NO, x.answer(i));
        Helper.run(x, "sum 1 0");
        Check.due("0", 2, x.answer(0));
        Check.due("1 is of an earlier one", NO, x.answer(1));
        Check.says("-100 less the FAULT (ANSWERS stay)");
        Check.due("fault", -109, Helper.run(x, "count * *,"));
        Check.due("0", 2, x.answer(0));
        x.query(0, 0, 31, 0, 31);
        Check.due("by a query without a text", 2, x.answer(0));
    }

    private static void spelling() {
        Check.says("x0-x1,y0-y1, parted by ; (numbers as short as can be; nothing for no REGIONS)");
        Counted x = new Counted();
        Check.due("nothing", 0, x.spell());
        Check.due("nothing", -1, x.paper(0));
        Helper.load(x, "00-00,00-00");
        Check.due("one", 7, x.spell());
        Check.due("one", "0-0,0-0", Helper.paper(x));
        Helper.load(x, "9-10,31-31;31-31,01-10");
        Check.due("three", 29, x.spell());
        Check.due("three", "0-0,0-0;9-10,31-31;31-31,1-10", Helper.paper(x));
        Check.due("behind its end", -1, x.paper(29));
    }

    private static void loading() {
        Check.says("each BOX in turn that meets no REGION: an ASK, it becomes a new REGION; the others are passed over");
        Counted x = new Counted();
        x.query(0, 10, 20, 10, 20);
        Check.due("none of three", 0, Helper.load(x, "20-31,20-31;15-15,15-15;0-31,0-31"));
        Check.due("no ASK", 1, x.told(2));
        Check.due("no HITS", 0, x.region(0, 5));
        Check.due("beside it", 2, Helper.load(x, "21-31,20-31;20-21,19-19;0-9,0-9"));
        Check.due("ASKS", 3, x.told(2));
        Check.due("boxes", "10-20,10-20 21-31,20-31 0-9,0-9", Helper.boxes(x));
        Check.due("one that the same text brought", 1, Helper.load(x, "30-31,0-1;31-31,1-5;30-30,0-0"));
        Check.due("big does not matter", 1, Helper.set(x, "big 1"));
        Check.due("of more than BIG", 1, Helper.load(x, "22-29,0-9"));
        Check.due("not MERGED", 0, x.told(6));
        Check.says("TRIMMING behind all");
        x = Helper.with("most 1");
        Check.due("three come", 3, Helper.load(x, "0-0,0-0;1-1,1-1;2-2,2-2"));
        Check.due("one stays", "2-2,2-2", Helper.boxes(x));
        Check.due("EVICTED", 2, x.told(4));
        Check.due("the later are met by those that go", 2, Helper.load(x, "2-2,2-2;5-5,5-5;5-6,5-6;7-7,7-7"));
        Check.due("one stays", "7-7,7-7", Helper.boxes(x));
    }

    private static void loadingTwelve() {
        Check.says("Such a text, 12 parts at most, 1 or 2 figures each, may be loaded");
        StringBuilder s = new StringBuilder();
        for (int i = 0; i < 12; i++) s.append(i > 0 ? ";" : "").append(i + "-0" + i % 10 + ",0-0");
        String twelve = s.toString().replace("10-00", "10-10").replace("11-01", "11-11");
        Counted x = new Counted();
        Check.due("twelve", 12, Helper.load(x, twelve));
        Check.due("twelve", 12, x.told(0));
        x = new Counted();
        Check.due("; behind the twelfth", -100 - twelve.length(), Helper.load(x, twelve + ";"));
        Check.due("thirteen", -100 - twelve.length(), Helper.load(x, twelve + ";20-20,0-0"));
        Check.due("none came", 0, x.told(0) + x.told(2));
        x = new Counted();
        Check.due("twelve on top of others", 1, Helper.load(x, "20-20,20-20"));
        Check.due("twelve on top of others", 12, Helper.load(x, twelve));
        Check.due("trimmed", 12, x.told(0));
        Check.due("the least NUMBER went", 1, x.region(0, 4));
    }

    private static void paper() {
        Check.says("THE PAPER holds the latest text that was spelled or explained (nothing at first)");
        Counted x = new Counted();
        for (int i : new int[] {-1, 0, 1, Integer.MIN_VALUE, Integer.MAX_VALUE}) Check.due("paper " + i, -1, x.paper(i));
        Check.due("explain", 21, x.explain(0, 5, 0, 5));
        Check.due("explained", "ask 0-5,0-5 10;pay 10", Helper.paper(x));
        x.explain(5, 0, 0, 5);
        Check.due("refused", 'a', x.paper(0));
        x.spell();
        Check.due("spelled: nothing", -1, x.paper(0));
        Check.due("no bytes", 0, x.told(10));
    }

    private static void explained() {
        Check.says("have, NUMBER, the COMMON BOX; ask, the BOX, its cost; then pay, all these costs together");
        Counted x = Helper.with("setup 0;merge off");
        x.explain(3, 3, 3, 3);
        Check.due("nothing to pay", "ask 3-3,3-3 0;pay 0", Helper.paper(x));
        for (int r = 0; r < 30; r++) x.put(r, 10, 10, 1);
        for (int i = 0; i < 12; i++) {
            x.flush();
            x.query(0, 3, 3, 3, 3);
        }
        x.explain(2, 31, 3, 31);
        Check.due("a NUMBER of two figures", "have 11 3-3,3-3;ask 2-31,4-31 30;ask 2-2,3-3 0;ask 4-31,3-3 0;pay 30",
            Helper.paper(x));
        x.explain(3, 3, 3, 3);
        Check.due("all had", "have 11 3-3,3-3;pay 0", Helper.paper(x));
        x = Helper.with("setup 99");
        Helper.load(x, "5-5,5-5");
        x.explain(4, 6, 4, 6);
        Check.due("all sides", "have 0 5-5,5-5;ask 4-6,4-4 99;ask 4-6,6-6 99;ask 4-4,5-5 99;ask 6-6,5-5 99;pay 396",
            Helper.paper(x));
    }
}
