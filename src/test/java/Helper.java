/** What the tests do with an object by several calls at once. */
final class Helper {
    /** Four numbers each that are no BOX: x0 is never -1, as that is something else for trace(). */
    static final int[][] NO_BOXES = {
        {-2, 0, 0, 0}, {0, 32, 0, 0}, {0, 0, -1, 0}, {0, 0, 0, 32}, {1, 0, 0, 0}, {0, 0, 1, 0}, {31, 30, 0, 31},
        {0, 31, 31, 30}, {32, 32, 0, 0}, {0, 0, 32, 32}, {-3, -2, 0, 0}, {0, 0, -2, -1},
        {Integer.MIN_VALUE, 0, 0, 0}, {0, Integer.MAX_VALUE, 0, 0}, {0, 0, Integer.MIN_VALUE, 0},
        {0, 0, 0, Integer.MAX_VALUE}, {Integer.MIN_VALUE, Integer.MAX_VALUE, 0, 0}, {256, 256, 0, 0}};

    private Helper() {
    }

    static Counted with(String settings) {
        Counted x = new Counted();
        if (!settings.isEmpty() && set(x, settings) < 0) throw new IllegalStateException(settings);
        return x;
    }

    static void feed(Counted x, String text) {
        for (int i = 0; i < text.length(); i++) x.feed(text.charAt(i));
    }

    static int set(Counted x, String text) {
        feed(x, text);
        return x.settings();
    }

    static int run(Counted x, String text) {
        feed(x, text);
        return x.run();
    }

    static int load(Counted x, String text) {
        feed(x, text);
        return x.load();
    }

    static String paper(Counted x) {
        StringBuilder s = new StringBuilder();
        long bytes = x.told(10);
        for (int i = 0; i < bytes; i++) s.append((char) x.paper(i));
        return s.toString();
    }

    private static String box(Counted x, int i, int from) {
        int x0 = x.region(i, from);
        if (x0 < 0) return "none";
        return x0 + "-" + x.region(i, from + 1) + "," + x.region(i, from + 2) + "-" + x.region(i, from + 3);
    }

    /** Each region: NUMBER:BOX, its HITS behind *, its HOT behind @, its WEIGHT behind =; parted by blanks. */
    static String regions(Counted x) {
        StringBuilder s = new StringBuilder();
        long regions = x.told(0);
        for (int i = 0; i < regions; i++) {
            if (i > 0) s.append(' ');
            s.append(x.region(i, 4)).append(':').append(box(x, i, 0)).append('*').append(x.region(i, 5));
            s.append('@').append(box(x, i, 6)).append('=').append(x.weight(i));
        }
        return s.toString();
    }

    static String boxes(Counted x) {
        StringBuilder s = new StringBuilder();
        long regions = x.told(0);
        for (int i = 0; i < regions; i++) s.append(i > 0 ? " " : "").append(box(x, i, 0));
        return s.toString();
    }

    static String piece(Counted x, int i) {
        return x.piece(i, 4) + ":" + x.piece(i, 0) + "-" + x.piece(i, 1) + "," + x.piece(i, 2) + "-" + x.piece(i, 3);
    }

    static String pieces(Counted x) {
        StringBuilder s = new StringBuilder();
        for (int i = 0; x.piece(i, 0) >= 0; i++) s.append(i > 0 ? " " : "").append(piece(x, i));
        return s.toString();
    }

    static String found(Counted x) {
        StringBuilder s = new StringBuilder();
        int rows = x.find(-1);
        for (int i = 0; i < rows; i++) s.append(i > 0 ? " " : "").append(x.find(i));
        return s.toString();
    }

    static String list(Counted x, int list) {
        StringBuilder s = new StringBuilder();
        long v = x.get(list, 0);
        for (int i = 1; v != RangeAnswers.NO; i++) {
            s.append(i > 1 ? " " : "").append(v);
            v = x.get(list, i);
        }
        return s.toString();
    }

    static String settings(Counted x) {
        StringBuilder s = new StringBuilder();
        for (int i = 0; i < 7; i++) s.append(i > 0 ? " " : "").append(x.setting(i));
        return s.toString();
    }

    /** All that THE IMAGE has, as far as it can be asked without changing anything. */
    static String imaged(Counted x) {
        StringBuilder s = new StringBuilder(regions(x)).append(" told");
        for (int i = 0; i < 10; i++) s.append(' ').append(x.told(i));
        s.append(" settings ").append(settings(x)).append(" rows");
        for (int r = 0; r < 60; r++) {
            long worth = x.worth(r);
            if (worth != RangeAnswers.NO) s.append(" " + r + ":" + x.row(r, 0) + "," + x.row(r, 1) + "=" + worth);
        }
        s.append(" find ").append(found(x)).append(" trace ").append(x.again(40, 0)).append(' ').append(x.again(2, 2));
        s.append(" watches");
        for (int i = 0; i < 6; i++) s.append(' ').append(x.value(i)).append('*').append(x.changes(i));
        return s.toString();
    }

    /** The rest of it but for THE TAPE, which can't be seen without being emptied. */
    static String besides(Counted x) {
        StringBuilder s = new StringBuilder("answers");
        for (int i = 0; i < 8; i++) s.append(' ').append(x.answer(i));
        s.append(" paper ").append(paper(x)).append(" pieces ").append(pieces(x)).append(" lists");
        for (int list = 0; list < 6; list++) s.append(' ').append(list).append(": ").append(list(x, list));
        return s.toString();
    }
}
