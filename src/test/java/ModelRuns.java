import java.util.Random;

/** Runs of as many calls as are promised, the same ones each time, on a RangeAnswers and on the Model side by side. */
public final class ModelRuns {
    private static final int RUNS = 4000;
    /** Calls of a run that are kept for looking at the state in the end. */
    private static final int LAST_LOOK = 100;
    /** More than what a step calls besides what it feeds. */
    private static final int ONE_STEP = 30;
    /** What boxes are like: style 0 is neither small ones nor bars. */
    private static final int SMALL = 1, BARS = 2, STYLES = 3;

    private final Random random;
    private final Counted real = new Counted();
    private final Model model = new Model();
    private final StringBuilder log = new StringBuilder();
    private final int[] lines;
    private final int style;
    private int wrong = 0;

    private ModelRuns(int seed) {
        random = new Random(seed);
        style = random.nextInt(STYLES);
        lines = new int[3 + random.nextInt(10)];
        for (int i = 0; i < lines.length; i++) lines[i] = random.nextInt(32);
    }

    public static void main(String[] args) {
        int runs = args.length > 0 ? Integer.parseInt(args[0]) : RUNS;
        int wrongRuns = 0;
        for (int seed = 0; seed < runs && wrongRuns < 3; seed++) {
            ModelRuns run = new ModelRuns(seed);
            run.allCalls();
            if (run.wrong > 0) {
                wrongRuns++;
                System.out.println("run " + seed + ":\n" + run.log);
            }
        }
        System.out.println(runs + " runs, " + wrongRuns + " wrong");
        if (wrongRuns > 0) System.exit(1);
    }

    private void allCalls() {
        while (real.callsLeft() > LAST_LOOK && wrong == 0) {
            oneCall();
            for (int i = below(8); i > 0 && wrong == 0; i--) look();
        }
        while (real.callsLeft() > 0 && wrong == 0) look();
    }

    private void due(String call, long want, long got) {
        if (want == got || wrong > 5) return;
        wrong++;
        log.append(call).append(" answered ").append(got).append(", due is ").append(want).append('\n');
    }

    private void asked(String call, long want, long got) {
        log.append(call).append(" = ").append(got).append('\n');
        due(call, want, got);
    }

    // ---- what is picked

    private int below(int n) {
        return random.nextInt(n);
    }

    private boolean oneIn(int n) {
        return random.nextInt(n) == 0;
    }

    private int number(int least, int most) {
        if (oneIn(40)) {
            int[] odd = {-1, -2, most + 1, least - 1, Integer.MAX_VALUE, Integer.MIN_VALUE, most + 32};
            return odd[below(odd.length)];
        }
        return least + below(most - least + 1);
    }

    private int[] box() {
        int[] b = new int[4];
        for (int side = 0; side < 4; side += 2) {
            int u = oneIn(3) ? below(32) : lines[below(lines.length)];
            int v = oneIn(4) ? below(32) : lines[below(lines.length)];
            if (style == SMALL) v = Math.min(31, u + below(6));
            if (style == BARS && side == 0 && !oneIn(5)) v = u;
            b[side] = Math.min(u, v);
            b[side + 1] = Math.max(u, v);
            if (oneIn(6)) b[side + 1] = Math.max(b[side], b[side + 1] - 1);
        }
        if (oneIn(40)) b[below(4)] = number(0, 31) - below(3);
        return b;
    }

    private long worth() {
        switch (below(12)) {
            case 0: return random.nextLong();
            case 1: return oneIn(2) ? Long.MAX_VALUE - below(3) : 999999999 - below(3);
            case 2: return Long.MIN_VALUE + below(4);
            default: return below(21) - 10;
        }
    }

    private int digitsUpTo(int most) {
        return oneIn(15) ? most + below(5) : below(most + 1);
    }

    private String range() {
        if (oneIn(3)) return "*";
        int[] b = box();
        if (oneIn(4)) return "" + Math.abs(b[0] % 33);
        return String.format(oneIn(5) ? "%02d-%d" : "%d-%d", Math.abs(b[0] % 40), Math.abs(b[1] % 40));
    }

    private String condition(int within) {
        StringBuilder s = new StringBuilder();
        do {
            if (s.length() > 0) s.append(oneIn(2) ? '|' : '&');
            if (within < 5 && oneIn(4)) {
                s.append("!".repeat(1 + below(2))).append(condition(within + 2));
            } else if (within < 5 && oneIn(3)) {
                s.append('(').append(condition(within + 1)).append(')');
            } else {
                s.append("wxyr".charAt(below(4))).append("<=>".charAt(below(3)));
                if (oneIn(4)) s.append('-');
                s.append(oneIn(20) ? 999999999 - below(3) : below(20));
            }
        } while (oneIn(3));
        return s.toString();
    }

    private String queries() {
        String[] verbs = {"count", "sum", "least", "most", "mean", "span", "kinds"};
        StringBuilder s = new StringBuilder();
        int n = oneIn(4) ? 1 + below(9) : 1 + below(2);
        for (int i = 0; i < n; i++) {
            if (i > 0) s.append(';');
            s.append(verbs[below(7)]).append(' ').append(range()).append(' ').append(range());
            if (oneIn(2)) s.append(" if ").append(condition(0));
        }
        return s.toString();
    }

    private String settings() {
        StringBuilder s = new StringBuilder();
        do {
            if (s.length() > 0) s.append(';');
            switch (below(7)) {
                case 0: s.append("setup ").append(digitsUpTo(99)); break;
                case 1: s.append("room ").append(oneIn(2) ? digitsUpTo(99) : 1 + below(20)); break;
                case 2: s.append("most ").append(1 + digitsUpTo(11)); break;
                case 3: s.append("writes ").append(oneIn(3) ? "patch" : oneIn(3) ? "drop" : "cut"); break;
                case 4: s.append("merge ").append(oneIn(2) ? "on" : "off"); break;
                case 5: s.append("shrink ").append(oneIn(3) ? "off" : "on"); break;
                default: s.append("big ").append(oneIn(2) ? 1 + digitsUpTo(1023) : 1 + below(200)); break;
            }
        } while (oneIn(2));
        return s.toString();
    }

    private String spelling() {
        StringBuilder s = new StringBuilder();
        int n = oneIn(4) ? 1 + below(13) : 1 + below(3);
        for (int i = 0; i < n; i++) {
            int[] b = box();
            if (i > 0) s.append(';');
            s.append(Math.abs(b[0] % 40)).append('-').append(Math.abs(b[1] % 40)).append(',');
            s.append(Math.abs(b[2] % 40)).append('-').append(Math.abs(b[3] % 40));
        }
        return s.toString();
    }

    private String spoiled(String s) {
        if (!oneIn(3) || s.isEmpty()) return s;
        String signs = "0123456789 ;-*,!()|&<=>wxyrabcdefimnopstuz";
        int i = below(s.length());
        char c = oneIn(4) ? (char) (1 + below(127)) : signs.charAt(below(signs.length()));
        switch (below(4)) {
            case 0: return s.substring(0, i);
            case 1: return s.substring(0, i) + s.substring(i + 1);
            case 2: return s.substring(0, i) + c + s.substring(i);
            default: return s.substring(0, i) + c + s.substring(i + 1);
        }
    }

    private void feedAll(String text) {
        log.append("-- ").append(text).append('\n');
        for (int i = 0; i < text.length() && real.callsLeft() > ONE_STEP; i++) {
            due("feed", model.feed(text.charAt(i)), real.feed(text.charAt(i)));
        }
    }

    // ---- calls

    private void oneCall() {
        switch (below(16)) {
            case 0: case 1: case 2: case 3: callPut(); break;
            case 4: callTake(); break;
            case 5: case 6: case 7: callQuery(); break;
            case 8: case 9: callText(); break;
            case 10: callAsk(); break;
            case 11: case 12: callTrace(); break;
            case 13: callWatch(); break;
            case 14: for (int i = 0; i < 4; i++) callList(); break;
            default: callImage(); break;
        }
    }

    private void callPut() {
        int r = number(0, oneIn(3) ? 59 : 15), x = number(0, 31), y = number(0, 31);
        if (oneIn(2)) {
            x = lines[below(lines.length)];
            y = lines[below(lines.length)];
        }
        long w = worth();
        asked("put " + r + " " + x + " " + y + " " + w, model.put(r, x, y, w), real.put(r, x, y, w));
    }

    private void callTake() {
        int r = number(0, oneIn(3) ? 59 : 15);
        asked("take " + r, model.take(r), real.take(r));
    }

    private void callQuery() {
        int m = number(0, 6);
        int[] b = box();
        asked("query " + m + " " + java.util.Arrays.toString(b), model.query(m, b[0], b[1], b[2], b[3]),
            real.query(m, b[0], b[1], b[2], b[3]));
    }

    private void callText() {
        switch (below(6)) {
            case 0: case 1:
                feedAll(spoiled(settings()));
                asked("settings", model.settings(), real.settings());
                break;
            case 2: case 3:
                feedAll(spoiled(queries()));
                asked("run", model.run(), real.run());
                break;
            case 4:
                feedAll(spoiled(spelling()));
                asked("load", model.load(), real.load());
                break;
            default:
                int letter = number(1, 127);
                asked("feed " + letter, model.feed(letter), real.feed(letter));
                asked("clear", model.clear(), real.clear());
        }
    }

    private void callAsk() {
        int[] b = box();
        String told = java.util.Arrays.toString(b);
        switch (below(5)) {
            case 0:
                asked("probe " + told, model.probe(b[0], b[1], b[2], b[3]), real.probe(b[0], b[1], b[2], b[3]));
                break;
            case 1:
                asked("explain " + told, model.explain(b[0], b[1], b[2], b[3]), real.explain(b[0], b[1], b[2], b[3]));
                lookAtPaper();
                break;
            case 2:
                asked("spell", model.spell(), real.spell());
                lookAtPaper();
                break;
            case 3:
                int n = number(0, oneIn(2) ? 12 : 60);
                asked("keep " + n, model.keep(n), real.keep(n));
                break;
            default:
                if (oneIn(4)) asked("flush", model.flush(), real.flush());
        }
    }

    private void callTrace() {
        int[] b = box();
        if (oneIn(15)) b[0] = -1;
        asked("trace " + java.util.Arrays.toString(b), model.trace(b[0], b[1], b[2], b[3]),
            real.trace(b[0], b[1], b[2], b[3]));
        int n = number(1, 99), what = number(0, 5);
        asked("again " + n + " " + what, model.again(n, what), real.again(n, what));
        if (!oneIn(10)) return;
        int paid = below(200);
        asked("least " + paid, model.least(paid), real.least(paid));
    }

    private void callWatch() {
        int m = number(0, 6);
        int[] b = box();
        asked("watch " + m + " " + java.util.Arrays.toString(b), model.watch(m, b[0], b[1], b[2], b[3]),
            real.watch(m, b[0], b[1], b[2], b[3]));
    }

    /** Mostly one of three lists, so that these come to hold something. */
    private int listNumber() {
        return oneIn(3) ? number(0, 5) : below(3);
    }

    private int placeIn(int list) {
        if (list < 0 || list > 5 || model.lists[list] == null || oneIn(30)) return number(0, 5);
        return near(model.lists[list].length);
    }

    private void callList() {
        int l = listNumber(), o = listNumber(), i = placeIn(l), j = placeIn(o);
        int n = oneIn(10) ? number(0, 60) : below(7);
        long v = worth();
        switch (below(6)) {
            case 0: asked("list " + l + " " + n, model.list(l, n), real.list(l, n)); break;
            case 1: case 2: asked("set " + l + " " + i + " " + v, model.set(l, i, v), real.set(l, i, v)); break;
            case 3: asked("move " + l + " " + i + " " + o + " " + j + " " + n, model.move(l, i, o, j, n),
                real.move(l, i, o, j, n)); break;
            case 4: asked("lay " + l + " " + i, model.lay(l, i), real.lay(l, i)); break;
            default: asked("judge " + l + " " + i, model.judge(l, i), real.judge(l, i)); break;
        }
    }

    private void callImage() {
        if (oneIn(2)) {
            asked("image", model.image(), real.image());
        } else {
            asked("undo", model.undo(), real.undo());
        }
    }

    // ---- what can be asked without changing anything

    private void lookAtPaper() {
        int from = below(model.paper.length() + 1);
        for (int i = from; i <= from + 12; i++) due("paper " + i, model.paper(i), real.paper(i));
    }

    private int near(int count) {
        return below(count + 2) - 1;
    }

    private void look() {
        switch (below(8)) {
            case 0: case 1: lookAtRegion(); break;
            case 2: case 3: lookAtNumbers(); break;
            case 4: lookAtRow(); break;
            case 5: lookAtFound(); break;
            case 6: lookAtWatch(); break;
            default: lookAtList();
        }
    }

    private void lookAtRegion() {
        int i = near(model.regions.size()), what = below(14) - 1;
        if (what == 12) {
            due("weight " + i, model.weight(i), real.weight(i));
        } else {
            due("region " + i + " " + what, model.region(i, what), real.region(i, what));
        }
    }

    private void lookAtNumbers() {
        int i = below(13) - 1;
        due("told " + i, model.told(i), real.told(i));
        if (!oneIn(4) || real.callsLeft() == 0) return;
        int what = near(7);
        due("setting " + what, model.setting(what), real.setting(what));
    }

    private void lookAtRow() {
        int r = oneIn(2) ? near(60) : near(15);
        if (oneIn(2)) {
            due("worth " + r, model.worth(r), real.worth(r));
        } else {
            int what = oneIn(9) ? below(5) - 1 : below(2);
            due("row " + r + " " + what, model.row(r, what), real.row(r, what));
        }
    }

    private void lookAtFound() {
        int i = below(model.found.size() + 3) - 2;
        int k = near(model.answers.size());
        int p = near(model.pieces.size()), what = near(5);
        switch (below(3)) {
            case 0: due("find " + i, model.find(i), real.find(i)); break;
            case 1: due("answer " + k, model.answer(k), real.answer(k)); break;
            default: due("piece " + p + " " + what, model.piece(p, what), real.piece(p, what));
        }
    }

    private void lookAtWatch() {
        int i = near(model.watches.size());
        if (oneIn(2)) {
            due("value " + i, model.value(i), real.value(i));
        } else {
            due("changes " + i, model.changes(i), real.changes(i));
        }
    }

    private void lookAtList() {
        int list = near(6);
        int i = list < 0 || list > 5 || model.lists[list] == null ? below(3) - 1 : near(model.lists[list].length);
        due("get " + list + " " + i, model.get(list, i), real.get(list, i));
    }
}
