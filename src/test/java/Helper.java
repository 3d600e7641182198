/** What the tests do with an object by several calls at once. */
final class Helper {
    private Helper() {
    }

    static RangeAnswers with(String settings) {
        RangeAnswers x = new RangeAnswers();
        if (!settings.isEmpty() && set(x, settings) < 0) throw new IllegalStateException(settings);
        return x;
    }

    static void feed(RangeAnswers x, String text) {
        for (int i = 0; i < text.length(); i++) x.feed(text.charAt(i));
    }

    static int set(RangeAnswers x, String text) {
        feed(x, text);
        return x.settings();
    }

    static int run(RangeAnswers x, String text) {
        feed(x, text);
        return x.run();
    }

    static int load(RangeAnswers x, String text) {
        feed(x, text);
        return x.load();
    }

    static String paper(RangeAnswers x) {
        StringBuilder s = new StringBuilder();
        for (int i = 0; x.paper(i) >= 0; i++) s.append((char) x.paper(i));
        return s.toString();
    }

    private static String box(RangeAnswers x, int i, int from) {
        if (x.region(i, from) < 0) return "none";
        return x.region(i, from) + "-" + x.region(i, from + 1) + "," + x.region(i, from + 2) + "-"
            + x.region(i, from + 3);
    }

    /** Each region: NUMBER:BOX, its HITS behind *, its HOT behind @, its WEIGHT behind =; parted by blanks. */
    static String regions(RangeAnswers x) {
        StringBuilder s = new StringBuilder();
        for (int i = 0; i < x.told(0); i++) {
            if (i > 0) s.append(' ');
            s.append(x.region(i, 4)).append(':').append(box(x, i, 0)).append('*').append(x.region(i, 5));
            s.append('@').append(box(x, i, 6)).append('=').append(x.weight(i));
        }
        return s.toString();
    }

    static String boxes(RangeAnswers x) {
        StringBuilder s = new StringBuilder();
        for (int i = 0; i < x.told(0); i++) s.append(i > 0 ? " " : "").append(box(x, i, 0));
        return s.toString();
    }

    static String pieces(RangeAnswers x) {
        StringBuilder s = new StringBuilder();
        for (int i = 0; x.piece(i, 0) >= 0; i++) {
            s.append(i > 0 ? " " : "").append(x.piece(i, 4)).append(':').append(x.piece(i, 0)).append('-');
            s.append(x.piece(i, 1)).append(',').append(x.piece(i, 2)).append('-').append(x.piece(i, 3));
        }
        return s.toString();
    }

    static String found(RangeAnswers x) {
        StringBuilder s = new StringBuilder();
        for (int i = 0; i < x.find(-1); i++) s.append(i > 0 ? " " : "").append(x.find(i));
        return s.toString();
    }

    static String list(RangeAnswers x, int list) {
        StringBuilder s = new StringBuilder();
        for (int i = 0; x.get(list, i) != RangeAnswers.NO; i++) s.append(i > 0 ? " " : "").append(x.get(list, i));
        return s.toString();
    }
}
