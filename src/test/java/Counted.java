/** A RangeAnswers that is not called more often than the document promises something for. */
final class Counted {
    static final int MOST_CALLS = 512;

    private final RangeAnswers answers = new RangeAnswers();
    private int calls = 0;

    int callsLeft() {
        return MOST_CALLS - calls;
    }

    private RangeAnswers next() {
        if (calls >= MOST_CALLS) throw new IllegalStateException("a test calls one object more than 512 times");
        calls++;
        return answers;
    }

    int put(int r, int x, int y, long worth) {
        return next().put(r, x, y, worth);
    }

    int take(int r) {
        return next().take(r);
    }

    int row(int r, int what) {
        return next().row(r, what);
    }

    long worth(int r) {
        return next().worth(r);
    }

    int feed(int letter) {
        return next().feed(letter);
    }

    int clear() {
        return next().clear();
    }

    int settings() {
        return next().settings();
    }

    int setting(int what) {
        return next().setting(what);
    }

    int run() {
        return next().run();
    }

    long answer(int i) {
        return next().answer(i);
    }

    int spell() {
        return next().spell();
    }

    int load() {
        return next().load();
    }

    int explain(int x0, int x1, int y0, int y1) {
        return next().explain(x0, x1, y0, y1);
    }

    int paper(int i) {
        return next().paper(i);
    }

    long query(int measure, int x0, int x1, int y0, int y1) {
        return next().query(measure, x0, x1, y0, y1);
    }

    int find(int i) {
        return next().find(i);
    }

    int probe(int x0, int x1, int y0, int y1) {
        return next().probe(x0, x1, y0, y1);
    }

    int piece(int i, int what) {
        return next().piece(i, what);
    }

    int region(int i, int what) {
        return next().region(i, what);
    }

    long weight(int i) {
        return next().weight(i);
    }

    long told(int what) {
        return next().told(what);
    }

    int flush() {
        return next().flush();
    }

    int keep(int n) {
        return next().keep(n);
    }

    int trace(int x0, int x1, int y0, int y1) {
        return next().trace(x0, x1, y0, y1);
    }

    int again(int n, int what) {
        return next().again(n, what);
    }

    int least(int paid) {
        return next().least(paid);
    }

    int watch(int measure, int x0, int x1, int y0, int y1) {
        return next().watch(measure, x0, x1, y0, y1);
    }

    long value(int watch) {
        return next().value(watch);
    }

    int changes(int watch) {
        return next().changes(watch);
    }

    int list(int list, int n) {
        return next().list(list, n);
    }

    int set(int list, int i, long v) {
        return next().set(list, i, v);
    }

    long get(int list, int i) {
        return next().get(list, i);
    }

    int move(int list, int i, int other, int j, int n) {
        return next().move(list, i, other, j, n);
    }

    int lay(int list, int i) {
        return next().lay(list, i);
    }

    int judge(int list, int i) {
        return next().judge(list, i);
    }

    int image() {
        return next().image();
    }

    int undo() {
        return next().undo();
    }
}
