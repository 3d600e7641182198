/** Counts and prints the answers that are not the ones that are due. */
final class Check {
    private static String what = "";
    private static int checked = 0;
    private static int wrong = 0;

    private Check() {
    }

    static void promise(int number) {
        what = "promise " + number;
    }

    /** A sentence of the document that names a boundary case, in its own words. */
    static void says(String sentence) {
        what = "\"" + sentence + "\"";
    }

    static void due(String call, long want, long got) {
        checked++;
        if (got != want) {
            wrong++;
            System.out.println(what + ": " + call + " answered " + got + ", due is " + want);
        }
    }

    static void due(String call, String want, String got) {
        checked++;
        if (!got.equals(want)) {
            wrong++;
            System.out.println(what + ": " + call + " answered \"" + got + "\", due is \"" + want + "\"");
        }
    }

    static void end() {
        System.out.println(checked + " answers looked at, " + wrong + " wrong");
        if (wrong != 0) System.exit(1);
    }
}
