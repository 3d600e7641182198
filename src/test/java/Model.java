import java.math.BigInteger;
import java.util.ArrayList;
import java.util.Arrays;
import java.util.HashSet;
import java.util.List;
import java.util.Set;
import java.util.TreeSet;

/**
 * The document once more, as slow and as literal as can be, with the whole Java library: what RangeAnswers answers in
 * long runs is held against it. It shares no code with the class.
 */
final class Model {
    static final long NO = Long.MIN_VALUE;
    static final long OVER = Long.MIN_VALUE + 1;

    static final class Fault extends Exception {
        private static final long serialVersionUID = 1;
        final int place;

        Fault(int place) {
            this.place = place;
        }
    }

    record Row(int r, int x, int y, long worth) implements Comparable<Row> {
        public int compareTo(Row o) {
            if (x != o.x) return Integer.compare(x, o.x);
            return y != o.y ? Integer.compare(y, o.y) : Integer.compare(r, o.r);
        }
    }

    static final class Region {
        int number;
        int[] box;
        int hits;
        int[] hot;
        long weight;

        Region copy() {
            Region c = new Region();
            c.number = number;
            c.box = box;
            c.hits = hits;
            c.hot = hot;
            c.weight = weight;
            return c;
        }
    }

    static final class Watch {
        int measure;
        int[] box;
        int changes;
    }

    interface Test {
        boolean holds(Row row);
    }

    record Query(int measure, int[] box, Test test) {
    }

    TreeSet<Row> rows = new TreeSet<>();
    int[] settings = {10, 40, 12, 0, 1, 1, 1024};
    List<Region> regions = new ArrayList<>();
    int next;
    long level, asks, paid, evicted, shrunk, merged, touched;
    List<Row> found = new ArrayList<>();
    List<int[]> trace = new ArrayList<>();
    List<Watch> watches = new ArrayList<>();

    String tape = "";
    String paper = "";
    List<Long> answers = new ArrayList<>();
    List<int[]> pieces = new ArrayList<>();
    long[][] lists = new long[6][];
    Model image;

    private void takeOver(Model o) {
        rows = new TreeSet<>(o.rows);
        settings = o.settings.clone();
        regions = new ArrayList<>();
        for (Region g : o.regions) regions.add(g.copy());
        next = o.next;
        level = o.level;
        asks = o.asks;
        paid = o.paid;
        evicted = o.evicted;
        shrunk = o.shrunk;
        merged = o.merged;
        touched = o.touched;
        found = new ArrayList<>(o.found);
        trace = new ArrayList<>(o.trace);
        watches = new ArrayList<>();
        for (Watch w : o.watches) {
            Watch c = new Watch();
            c.measure = w.measure;
            c.box = w.box;
            c.changes = w.changes;
            watches.add(c);
        }
    }

    // ---- boxes

    static boolean isBox(int... b) {
        for (int side : b) if (side < 0 || side > 31) return false;
        return b[0] <= b[1] && b[2] <= b[3];
    }

    static boolean has(int[] b, int x, int y) {
        return b[0] <= x && x <= b[1] && b[2] <= y && y <= b[3];
    }

    static int area(int[] b) {
        return (b[1] - b[0] + 1) * (b[3] - b[2] + 1);
    }

    /** Either may be null. */
    static int[] around(int[] a, int[] b) {
        if (a == null || b == null) return a == null ? b : a;
        return new int[] {Math.min(a[0], b[0]), Math.max(a[1], b[1]), Math.min(a[2], b[2]), Math.max(a[3], b[3])};
    }

    /** Null, if they don't meet, or the first is null. */
    static int[] common(int[] a, int[] b) {
        if (a == null) return null;
        int[] c = {Math.max(a[0], b[0]), Math.min(a[1], b[1]), Math.max(a[2], b[2]), Math.min(a[3], b[3])};
        return c[0] <= c[1] && c[2] <= c[3] ? c : null;
    }

    static boolean meet(int[] a, int[] b) {
        return common(a, b) != null;
    }

    static List<int[]> rest(int[] b, int[] o) {
        List<int[]> out = new ArrayList<>();
        int[] c = common(b, o);
        if (c == null) {
            out.add(b);
            return out;
        }
        int[][] all = {
            {b[0], b[1], b[2], c[2] - 1}, {b[0], b[1], c[3] + 1, b[3]},
            {b[0], c[0] - 1, c[2], c[3]}, {c[1] + 1, b[1], c[2], c[3]}};
        for (int[] r : all) if (r[0] <= r[1] && r[2] <= r[3]) out.add(r);
        return out;
    }

    List<Row> rowsIn(int[] b) {
        List<Row> out = new ArrayList<>();
        for (Row row : rows) if (has(b, row.x, row.y)) out.add(row);
        return out;
    }

    long sizeOf(int[] b) {
        return 1 + rowsIn(b).size();
    }

    long costOf(int[] b) {
        return settings[0] + rowsIn(b).size();
    }

    long sizes() {
        long n = 0;
        for (Region g : regions) n += sizeOf(g.box);
        return n;
    }

    // ---- the cache

    List<int[]> missing(int[] box) {
        List<int[]> m = new ArrayList<>();
        m.add(box);
        for (Region g : regions) {
            List<int[]> then = new ArrayList<>();
            for (int[] b : m) then.addAll(rest(b, g.box));
            m = then;
        }
        return m;
    }

    void weigh(Region g) {
        g.weight = level + 1000 * costOf(g.box) * (1 + g.hits) / sizeOf(g.box);
    }

    void newRegion(int[] box) {
        Region g = new Region();
        g.number = next++;
        g.box = box;
        regions.add(g);
        weigh(g);
    }

    void ask(int[] box) {
        asks++;
        paid += costOf(box);
    }

    void doQuery(int[] box) {
        List<int[]> m = missing(box);
        for (Region g : regions) {
            int[] c = common(g.box, box);
            if (c == null) continue;
            g.hits = Math.min(9999, g.hits + 1);
            g.hot = around(g.hot, c);
            weigh(g);
        }
        for (int[] b : m) {
            ask(b);
            if (area(b) <= settings[6]) newRegion(b);
        }
        merging();
        trimming();
    }

    void merging() {
        if (settings[4] == 0) return;
        boolean again = true;
        while (again) {
            again = false;
            search:
            for (int i = 0; i < regions.size(); i++) {
                for (int j = i + 1; j < regions.size(); j++) {
                    Region a = regions.get(i), b = regions.get(j);
                    int[] whole = around(a.box, b.box);
                    if (area(whole) != area(a.box) + area(b.box)) continue;
                    a.box = whole;
                    a.hits = Math.min(9999, a.hits + b.hits);
                    a.hot = around(a.hot, b.hot);
                    a.weight = Math.max(a.weight, b.weight);
                    regions.remove(j);
                    merged++;
                    again = true;
                    break search;
                }
            }
        }
    }

    void trimming() {
        while (regions.size() > settings[2] || sizes() > settings[1]) {
            Region least = regions.get(0);
            for (Region g : regions) {
                if (g.weight < least.weight || g.weight == least.weight && g.number < least.number) least = g;
            }
            if (least.weight > level) level = least.weight;
            if (settings[5] == 1 && least.hot != null && area(least.hot) < area(least.box)) {
                least.box = least.hot;
                least.hot = null;
                least.hits /= 2;
                weigh(least);
                shrunk++;
            } else {
                regions.remove(least);
                evicted++;
            }
        }
    }

    void write(int x, int y) {
        for (Region g : new ArrayList<>(regions)) {
            if (!has(g.box, x, y)) continue;
            touched++;
            if (settings[3] == 0) return;
            regions.remove(g);
            if (settings[3] == 1) return;
            for (int[] b : rest(g.box, new int[] {x, x, y, y})) {
                Region n = g.copy();
                n.number = next++;
                n.box = b;
                n.hot = common(g.hot, b);
                regions.add(n);
            }
        }
    }

    // ---- measures

    static long measure(int which, List<Row> of) {
        if (of.isEmpty() && which >= 2 && which <= 5) return NO;
        BigInteger max = BigInteger.valueOf(Long.MAX_VALUE), min = BigInteger.valueOf(Long.MIN_VALUE);
        BigInteger sum = BigInteger.ZERO, least = max, most = min;
        boolean over = false;
        Set<Long> kinds = new HashSet<>();
        for (Row row : of) {
            BigInteger w = BigInteger.valueOf(row.worth);
            sum = sum.add(w);
            if (sum.compareTo(max) > 0 || sum.compareTo(min) < 0) over = true;
            least = least.min(w);
            most = most.max(w);
            kinds.add(row.worth);
        }
        switch (which) {
            case 0: return of.size();
            case 1: return over ? OVER : sum.longValueExact();
            case 2: return least.longValueExact();
            case 3: return most.longValueExact();
            case 4: {
                if (over) return OVER;
                BigInteger[] qr = sum.divideAndRemainder(BigInteger.valueOf(of.size()));
                return qr[0].longValueExact() - (qr[1].signum() < 0 ? 1 : 0);
            }
            case 5: {
                BigInteger span = most.subtract(least);
                return span.compareTo(max) > 0 ? OVER : span.longValueExact();
            }
            default: return kinds.size();
        }
    }

    long doneQuery(Query q) {
        doQuery(q.box);
        found = new ArrayList<>();
        for (Row row : rowsIn(q.box)) if (q.test.holds(row)) found.add(row);
        return measure(q.measure, found);
    }

    // ---- texts

    private String text;
    private int at;

    private char here() {
        return at < text.length() ? text.charAt(at) : 0;
    }

    private void expect(char c) throws Fault {
        if (here() != c) throw new Fault(at);
        at++;
    }

    private int word(String... words) throws Fault {
        int end = at;
        while (end < text.length() && text.charAt(end) >= 'a' && text.charAt(end) <= 'z') end++;
        int which = Arrays.asList(words).indexOf(text.substring(at, end));
        if (which < 0) throw new Fault(at);
        at = end;
        return which;
    }

    private int number(int figures, int least, int most) throws Fault {
        int end = at;
        while (end < text.length() && end - at < figures && Character.isDigit(text.charAt(end))) end++;
        if (end == at) throw new Fault(at);
        int n = Integer.parseInt(text.substring(at, end));
        if (n < least || n > most) throw new Fault(at);
        at = end;
        return n;
    }

    private boolean goesOn(int parts, int most) throws Fault {
        if (at == text.length()) return false;
        if (parts == most) throw new Fault(at);
        expect(';');
        return true;
    }

    private void open() {
        text = tape;
        tape = "";
        at = 0;
    }

    int settings() {
        open();
        try {
            int[] then = settings.clone();
            int parts = 0;
            do {
                int what = word("setup", "room", "most", "writes", "merge", "shrink", "big");
                expect(' ');
                if (what == 0) then[0] = number(2, 0, 99);
                if (what == 1) then[1] = number(2, 1, 99);
                if (what == 2) then[2] = number(2, 1, 12);
                if (what == 3) then[3] = word("patch", "drop", "cut");
                if (what == 4 || what == 5) then[what] = word("off", "on");
                if (what == 6) then[6] = number(4, 1, 1024);
                parts++;
            } while (goesOn(parts, 1000));
            settings = then;
            trimming();
            return parts;
        } catch (Fault f) {
            return -100 - f.place;
        }
    }

    int run() {
        open();
        try {
            List<Query> queries = new ArrayList<>();
            do {
                int measure = word("count", "sum", "least", "most", "mean", "span", "kinds");
                expect(' ');
                int[] x = range();
                expect(' ');
                int[] y = range();
                Test test = row -> true;
                if (here() == ' ') {
                    at++;
                    word("if");
                    expect(' ');
                    test = anyOf(0);
                }
                queries.add(new Query(measure, new int[] {x[0], x[1], y[0], y[1]}, test));
            } while (goesOn(queries.size(), 8));
            answers = new ArrayList<>();
            for (Query q : queries) answers.add(doneQuery(q));
            return queries.size();
        } catch (Fault f) {
            return -100 - f.place;
        }
    }

    private int[] range() throws Fault {
        if (here() == '*') {
            at++;
            return new int[] {0, 31};
        }
        int n = number(2, 0, 31);
        if (here() != '-') return new int[] {n, n};
        at++;
        return new int[] {n, number(2, n, 31)};
    }

    private Test anyOf(int within) throws Fault {
        Test a = allOf(within);
        if (here() != '|') return a;
        at++;
        Test b = anyOf(within);
        return row -> a.holds(row) || b.holds(row);
    }

    private Test allOf(int within) throws Fault {
        Test a = one(within);
        if (here() != '&') return a;
        at++;
        Test b = allOf(within);
        return row -> a.holds(row) && b.holds(row);
    }

    private Test one(int within) throws Fault {
        char c = here();
        if (c == '!' || c == '(') {
            if (within == 4) throw new Fault(at);
            at++;
            if (c == '!') {
                Test a = one(within + 1);
                return row -> !a.holds(row);
            }
            Test a = anyOf(within + 1);
            expect(')');
            return a;
        }
        if (c != 'w' && c != 'x' && c != 'y' && c != 'r') throw new Fault(at);
        at++;
        char op = here();
        if (op != '<' && op != '=' && op != '>') throw new Fault(at);
        at++;
        boolean minus = here() == '-';
        if (minus) at++;
        long n = number(9, 0, 999999999) * (minus ? -1L : 1L);
        return row -> {
            long v = c == 'w' ? row.worth : c == 'x' ? row.x : c == 'y' ? row.y : row.r;
            return op == '<' ? v < n : op == '=' ? v == n : v > n;
        };
    }

    int load() {
        open();
        try {
            List<int[]> boxes = new ArrayList<>();
            do {
                int x0 = number(2, 0, 31);
                expect('-');
                int x1 = number(2, x0, 31);
                expect(',');
                int y0 = number(2, 0, 31);
                expect('-');
                boxes.add(new int[] {x0, x1, y0, number(2, y0, 31)});
            } while (goesOn(boxes.size(), 12));
            int came = 0;
            for (int[] b : boxes) {
                if (regions.stream().anyMatch(g -> meet(g.box, b))) continue;
                ask(b);
                newRegion(b);
                came++;
            }
            trimming();
            return came;
        } catch (Fault f) {
            return -100 - f.place;
        }
    }

    private static String spelled(int[] b) {
        return b[0] + "-" + b[1] + "," + b[2] + "-" + b[3];
    }

    int spell() {
        List<String> parts = new ArrayList<>();
        for (Region g : regions) parts.add(spelled(g.box));
        paper = String.join(";", parts);
        return paper.length();
    }

    int explain(int x0, int x1, int y0, int y1) {
        if (!isBox(x0, x1, y0, y1)) return -2;
        int[] box = {x0, x1, y0, y1};
        List<String> parts = new ArrayList<>();
        for (Region g : regions) {
            if (meet(g.box, box)) parts.add("have " + g.number + " " + spelled(common(g.box, box)));
        }
        long pay = 0;
        for (int[] b : missing(box)) {
            parts.add("ask " + spelled(b) + " " + costOf(b));
            pay += costOf(b);
        }
        parts.add("pay " + pay);
        paper = String.join(";", parts);
        return paper.length();
    }

    int paper(int i) {
        return i < 0 || i >= paper.length() ? -1 : paper.charAt(i);
    }

    // ---- the rest of the face

    private Row rowOf(int r) {
        for (Row row : rows) if (row.r == r) return row;
        return null;
    }

    private List<Long> watched() {
        List<Long> values = new ArrayList<>();
        for (int i = 0; i < watches.size(); i++) values.add(value(i));
        return values;
    }

    private int written(List<Long> before) {
        trimming();
        for (int i = 0; i < watches.size(); i++) {
            if (value(i) != before.get(i)) watches.get(i).changes++;
        }
        return regions.size();
    }

    int put(int r, int x, int y, long worth) {
        if (r < 0 || r > 59) return -1;
        if (x < 0 || x > 31 || y < 0 || y > 31 || worth == NO || worth == OVER) return -2;
        List<Long> before = watched();
        Row old = rowOf(r);
        if (old != null) {
            rows.remove(old);
            write(old.x, old.y);
        }
        rows.add(new Row(r, x, y, worth));
        write(x, y);
        return written(before);
    }

    int take(int r) {
        if (r < 0 || r > 59) return -1;
        Row old = rowOf(r);
        if (old == null) return -3;
        List<Long> before = watched();
        rows.remove(old);
        write(old.x, old.y);
        return written(before);
    }

    int row(int r, int what) {
        if (r < 0 || r > 59 || what < 0 || what > 1) return -1;
        Row row = rowOf(r);
        if (row == null) return -3;
        return what == 0 ? row.x : row.y;
    }

    long worth(int r) {
        Row row = rowOf(r);
        return row == null ? NO : row.worth;
    }

    int feed(int letter) {
        if (letter < 1 || letter > 127) return -2;
        if (tape.length() == 160) return -4;
        tape += (char) letter;
        return tape.length();
    }

    int clear() {
        int had = tape.length();
        tape = "";
        return had;
    }

    int setting(int what) {
        return what < 0 || what > 6 ? -1 : settings[what];
    }

    long answer(int i) {
        return i < 0 || i >= answers.size() ? NO : answers.get(i);
    }

    long query(int measure, int x0, int x1, int y0, int y1) {
        if (measure < 0 || measure > 6 || !isBox(x0, x1, y0, y1)) return NO;
        return doneQuery(new Query(measure, new int[] {x0, x1, y0, y1}, row -> true));
    }

    int find(int i) {
        if (i == -1) return found.size();
        return i < 0 || i >= found.size() ? -1 : found.get(i).r;
    }

    int probe(int x0, int x1, int y0, int y1) {
        if (!isBox(x0, x1, y0, y1)) return -2;
        int[] box = {x0, x1, y0, y1};
        pieces = new ArrayList<>();
        for (Region g : regions) {
            int[] c = common(g.box, box);
            if (c != null) pieces.add(new int[] {c[0], c[1], c[2], c[3], g.number});
        }
        for (int[] b : missing(box)) pieces.add(new int[] {b[0], b[1], b[2], b[3], -5});
        return pieces.size();
    }

    int piece(int i, int what) {
        return i < 0 || i >= pieces.size() || what < 0 || what > 4 ? -1 : pieces.get(i)[what];
    }

    int region(int i, int what) {
        if (i < 0 || i >= regions.size() || what < 0 || what > 11) return -1;
        Region g = regions.get(i);
        if (what < 4) return g.box[what];
        if (what == 4) return g.number;
        if (what == 5) return g.hits;
        if (what < 10) return g.hot == null ? -5 : g.hot[what - 6];
        return (int) (what == 10 ? sizeOf(g.box) : costOf(g.box));
    }

    long weight(int i) {
        return i < 0 || i >= regions.size() ? NO : regions.get(i).weight;
    }

    long told(int what) {
        long[] all = {regions.size(), sizes(), asks, paid, evicted, shrunk, merged, touched, level, rows.size(),
            paper.length()};
        return what < 0 || what >= all.length ? NO : all[what];
    }

    int flush() {
        int n = regions.size();
        regions.clear();
        return n;
    }

    int keep(int n) {
        if (n < 0) return -2;
        long best = -1;
        int set = 0;
        for (int bits = 0; bits < 1 << regions.size(); bits++) {
            long size = 0, benefit = 0;
            for (int i = 0; i < regions.size(); i++) {
                if ((bits >> i & 1) == 0) continue;
                Region g = regions.get(i);
                size += sizeOf(g.box);
                benefit += costOf(g.box) * (1 + g.hits);
            }
            if (size <= n && benefit > best) {
                best = benefit;
                set = bits;
            }
        }
        return set;
    }

    int trace(int x0, int x1, int y0, int y1) {
        if (x0 == -1) {
            trace.clear();
            return 0;
        }
        if (!isBox(x0, x1, y0, y1)) return -2;
        if (trace.size() == 10) return -4;
        trace.add(new int[] {x0, x1, y0, y1});
        return trace.size();
    }

    private Model doneAgain(int n) {
        Model m = new Model();
        m.rows = rows;
        m.settings = settings.clone();
        m.settings[1] = n;
        for (int[] b : trace) m.doQuery(b);
        return m;
    }

    int again(int n, int what) {
        if (what < 0 || what > 5) return -1;
        if (n < 1 || n > 99) return -2;
        Model m = doneAgain(n);
        long[] all = {m.paid, m.asks, m.evicted, m.shrunk, m.merged, m.regions.size()};
        return (int) all[what];
    }

    int least(int paid) {
        for (int n = 1; n <= 99; n++) if (doneAgain(n).paid <= paid) return n;
        return -5;
    }

    int watch(int measure, int x0, int x1, int y0, int y1) {
        if (measure < 0 || measure > 6) return -1;
        if (!isBox(x0, x1, y0, y1)) return -2;
        if (watches.size() == 6) return -4;
        Watch w = new Watch();
        w.measure = measure;
        w.box = new int[] {x0, x1, y0, y1};
        watches.add(w);
        return watches.size() - 1;
    }

    long value(int watch) {
        if (watch < 0 || watch >= watches.size()) return NO;
        return measure(watches.get(watch).measure, rowsIn(watches.get(watch).box));
    }

    int changes(int watch) {
        return watch < 0 || watch >= watches.size() ? -1 : watches.get(watch).changes;
    }

    int list(int list, int n) {
        if (list < 0 || list > 5) return -1;
        if (n > 60) return -2;
        if (n < 0) return -14;
        lists[list] = new long[n];
        return 1;
    }

    int set(int list, int i, long v) {
        if (list < 0 || list > 5) return -1;
        if (lists[list] == null) return -11;
        if (i < 0 || i >= lists[list].length) return -13;
        lists[list][i] = v;
        return 1;
    }

    long get(int list, int i) {
        if (list < 0 || list > 5 || lists[list] == null || i < 0 || i >= lists[list].length) return NO;
        return lists[list][i];
    }

    int move(int list, int i, int other, int j, int n) {
        if (list < 0 || list > 5 || other < 0 || other > 5) return -1;
        if (lists[list] == null || lists[other] == null) return -11;
        if (n < 0 || i < 0 || j < 0) return -13;
        if ((long) i + n > lists[list].length || (long) j + n > lists[other].length) return -13;
        long[] were = lists[list].clone();
        for (int k = 0; k < n; k++) lists[other][j + k] = were[i + k];
        return n;
    }

    int lay(int list, int i) {
        if (list < 0 || list > 5) return -1;
        if (lists[list] == null) return -11;
        int laid = 0;
        for (Row row : found) {
            long place = (long) i + laid;
            if (i < 0 || place >= lists[list].length) return -13;
            lists[list][(int) place] = row.worth;
            laid++;
        }
        return laid;
    }

    int judge(int list, int i) {
        if (list < 0 || list > 5) return -1;
        if (lists[list] == null) return -11;
        if (i < 0) return 100;
        int looked = 0;
        for (Row row : found) {
            long place = (long) i + looked;
            if (place >= lists[list].length) return 100 + looked;
            if (lists[list][(int) place] != row.worth) return looked;
            looked++;
        }
        return -5;
    }

    int image() {
        image = new Model();
        image.takeOver(this);
        return regions.size();
    }

    int undo() {
        if (image == null) return -3;
        takeOver(image);
        return regions.size();
    }
}
