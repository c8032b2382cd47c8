/** Promises 16 to 20, what would be best: each sentence of the document that names a boundary case, by a test of its own. */
public final class BestBoundsTest extends Bounds {
    private static final String GAPS = ".".repeat(24);

    public static void main(String[] args) throws ReflectiveOperationException {
        Checks.runAll(BestBoundsTest.class, 16, 20);
    }

    private static Run five(String letters) {
        Run x = Run.ruled(letters);
        for (int one = 0; one < 5; one++) {
            x.one(0, one + 1, 0);
        }
        return x;
    }

    /** Each takes 1, if all of greater numbers have taken theirs: the last of all orders alone is best. */
    private static Run fiveOfWhomTheLastHadBestGoFirst() {
        return five("takes row=19+number;keeps 0;shakes 0;").row(1, GAPS);
    }

    // ---- promise 16

    static void firstOfNobodyAndOfNoRow() {
        about(16, "-1000: none such, what.");
        new Run().row(0, "...").refused(NO_BEST, "first", 0, 0, 0);
        for (int no : new int[] {-1, 3, 5, LOW, HIGH}) {
            Run.full().refused(NO_BEST, "first", no, 0, 0);
            Run.full().refused(NO_BEST, "first", no, 0, 1);
        }
        for (int no : new int[] {-1, 4, LOW, HIGH}) {
            Run.full().refused(NO_BEST, "first", 0, no, 0);
        }
        for (int no : new int[] {-1, 2, LOW, HIGH}) {
            Run.full().refused(NO_BEST, "first", 0, 0, no);
        }
        Run.full().refused(NO_BEST, "first", 9, 9, 9);
    }

    static void firstOfLikeOrdersIsTheFirst() {
        about(16, "of like ones the first (by digits)");
        Run x = five("takes 1;keeps 0;shakes 0;").row(1, GAPS);
        for (int one = 0; one < 5; one++) {
            x.still(12345, "first", one, 1, 0);
            x.still(1, "first", one, 1, 1);
            x.still(12345, "first", one, 0, 0);
            x.still(0, "first", one, 0, 1);
        }
        x.row(2, "..");
        int[] due = {12345, 12345, 13245, 14235, 15234};
        for (int one = 0; one < 5; one++) {
            x.still(due[one], "first", one, 2, 0);
            x.still(1, "first", one, 2, 1);
        }
    }

    static void firstMayBeTheLastOfAllOrders() {
        about(16, "of all ORDERS that by which one has TAKEN most (the others', too, gleaning)");
        Run x = fiveOfWhomTheLastHadBestGoFirst();
        x.still(54321, "first", 0, 1, 0);
        x.still(1, "first", 0, 1, 1);
        x.still(12345, "first", 4, 1, 0);
        x.still(1, "first", 4, 1, 1);
        x.still(12354, "first", 3, 1, 0);
    }

    static void firstOfOneAlone() {
        about(16, "of all ORDERS that by which one has TAKEN most");
        Run x = new Run().one(2, 0, 0).row(0, "..#.");
        x.still(1, "first", 0, 0, 0);
        x.still(3, "first", 0, 0, 1);
    }

    static void mostMayBeBelowZero() {
        about(16, "FIRST MOST (what 0), how much one has TAKEN then (1).");
        Run x = new Run().one(4, 2, 9).row(0, "..#.");
        x.still(1, "first", 0, 0, 0);
        x.still(-4, "first", 0, 0, 1);
        Run y = new Run().one(4, 1, 9).one(2, 0, 0).row(0, "..#.");
        y.still(21, "first", 0, 0, 0);
        y.still(0, "first", 0, 0, 1);
    }

    // ---- promise 17

    static void bestOfNoRow() {
        about(17, "-1000: row, what.");
        for (int no : new int[] {-1, 4, LOW, HIGH}) {
            for (int what = 0; what <= 4; what++) {
                Run.full().refused(NO_BEST, "best", no, what);
            }
        }
        for (int no : new int[] {-1, 5, LOW, HIGH}) {
            Run.full().refused(NO_BEST, "best", 0, no);
            new Run().refused(NO_BEST, "best", 0, no);
        }
        Run.full().refused(NO_BEST, "best", 4, 5);
    }

    static void bestOfNobody() {
        about(17, "LEAST LEFT (what 0; 0: nobody), how much (1), ALONE (2; NONE), how much (3; NONE: nobody), BARE (4; NONE).");
        Run x = new Run().row(0, "..#.").row(3, GAPS);
        long[] some = {0, 3, NONE, NONE, NONE};
        long[] none = {0, 0, NONE, NONE, 0};
        long[] full = {0, 24, NONE, NONE, NONE};
        for (int what = 0; what < 5; what++) {
            x.still(some[what], "best", 0, what);
            x.still(none[what], "best", 1, what);
            x.still(full[what], "best", 3, what);
        }
    }

    static void leastLeftOfLikeOrdersIsTheFirst() {
        about(17, "LEAST LEFT (a ROW): likewise by which least is LEFT.");
        Run x = five("takes 1;keeps 0;shakes 0;").row(0, GAPS);
        x.still(12345, "best", 0, 0);
        x.still(19, "best", 0, 1);
        x.still(12345, "best", 1, 0);
        x.still(0, "best", 1, 1);
    }

    static void leastLeftMayBeByTheLastOfAllOrders() {
        about(17, "LEAST LEFT (a ROW): likewise by which least is LEFT.");
        Run x = fiveOfWhomTheLastHadBestGoFirst();
        x.still(54321, "best", 1, 0);
        x.still(19, "best", 1, 1);
    }

    static void leastLeftMayBeMoreThanIsLeftNow() {
        about(17, "LEAST LEFT (a ROW): likewise by which least is LEFT.");
        Run x = new Run().one(4, 9, 9).row(0, "#.");
        x.still(1, "best", 0, 0);
        x.still(10, "best", 0, 1);
        x.row(1, GAPS).still(24, "best", 1, 1);
    }

    static void aloneOfLikeOnesIsTheFirst() {
        about(17, "ALONE (a ROW): who, gleaning it alone, TAKES most; of like ones the first; NONE.");
        Run x = five("takes number;keeps 0;shakes 0;").row(0, "..").row(1, GAPS);
        x.still(1, "best", 0, 2);
        x.still(2, "best", 0, 3);
        x.still(4, "best", 1, 2);
        x.still(5, "best", 1, 3);
        x.still(0, "best", 2, 2);
        x.still(0, "best", 2, 3);
    }

    static void aloneMayBeBelowZero() {
        about(17, "ALONE (a ROW): who, gleaning it alone, TAKES most");
        Run x = new Run().one(4, 3, 9).one(4, 1, 9).one(4, 1, 9).row(0, ".");
        x.still(1, "best", 0, 2);
        x.still(-1, "best", 0, 3);
    }

    static void bareNow() {
        about(17, "nothing is LEFT first (0: now)");
        Run x = Run.ruled("takes 1;keeps 0;shakes 9;").one(0, 0, 0).row(1, "#".repeat(24)).row(2, ".");
        x.still(0, "best", 0, 4);
        x.still(0, "best", 1, 4);
        x.still(NONE, "best", 2, 4);
    }

    static void bareBehindTwentyNights() {
        about(17, "BARE (a ROW): behind how many NIGHTS (0 .. 20), in each of which, ahead of it, all GLEAN it by numbers");
        Run x = Run.ruled("takes 1;keeps 0;shakes 0;").one(0, 0, 0);
        for (int gaps = 0; gaps <= 24; gaps++) {
            x.row(2, ".".repeat(gaps)).still(gaps <= 20 ? gaps : NONE, "best", 2, 4);
        }
    }

    static void bareIsBehindTheNightNotAheadOfIt() {
        about(17, "behind how many NIGHTS (0 .. 20), in each of which, ahead of it, all GLEAN it by numbers, nothing is LEFT first");
        Run x = Run.ruled("takes gap;keeps 0;shakes night<7;").one(0, 0, 0).row(0, "...");
        x.still(8, "best", 0, 4);
        Run y = Run.ruled("takes gap;keeps 0;shakes 1;").one(0, 0, 0).row(0, "...");
        y.still(NONE, "best", 0, 4);
    }

    static void bareMayComeBehindNight999() {
        about(17, "(there NIGHT may pass 999)");
        Run x = Run.ruled("takes night=1018;keeps 0;shakes 0;").one(0, 0, 0).at(999).row(0, ".");
        x.still(20, "best", 0, 4);
        Run y = Run.ruled("takes night=1019;keeps 0;shakes 0;").one(0, 0, 0).at(999).row(0, ".");
        y.still(NONE, "best", 0, 4);
    }

    // ---- promise 18

    static void rowForNobody() {
        about(18, "ROW FOR (what 0), how much (1). -1000: none such, what.");
        new Run().row(0, "...").refused(NO_BEST, "rowFor", 0, 0);
        for (int no : new int[] {-1, 3, 5, LOW, HIGH}) {
            Run.full().refused(NO_BEST, "rowFor", no, 0);
            Run.full().refused(NO_BEST, "rowFor", no, 1);
        }
        for (int no : new int[] {-1, 2, LOW, HIGH}) {
            Run.full().refused(NO_BEST, "rowFor", 0, no);
        }
        Run.full().refused(NO_BEST, "rowFor", 3, 2);
    }

    static void rowForOfLikeOnesIsTheFirst() {
        about(18, "ROW FOR (one): the ROW of which one TAKES most now; of like ones the first.");
        Run x = new Run().one(2, 0, 0);
        x.still(0, "rowFor", 0, 0);
        x.still(0, "rowFor", 0, 1);
        x.row(3, ".").still(3, "rowFor", 0, 0);
        x.still(1, "rowFor", 0, 1);
        x.row(2, "#.").still(2, "rowFor", 0, 0);
        x.row(1, "..").still(1, "rowFor", 0, 0);
        x.row(3, GAPS).still(3, "rowFor", 0, 0);
        x.still(24, "rowFor", 0, 1);
        x.row(0, GAPS).still(0, "rowFor", 0, 0);
    }

    static void rowForMayBeOfLessThanNothing() {
        about(18, "ROW FOR (one): the ROW of which one TAKES most now");
        Run x = new Run().one(4, 2, 9).row(0, "..").row(1, ".#.").row(2, ".".repeat(23)).row(3, "...");
        x.still(2, "rowFor", 0, 0);
        x.still(-1, "rowFor", 0, 1);
        x.row(3, GAPS).still(3, "rowFor", 0, 0);
        x.still(0, "rowFor", 0, 1);
    }

    // ---- promise 19

    static void longestOfNothing() {
        about(19, "LONGEST; NONE.");
        new Run().still(NONE, "longest");
        new Run().row(0, "#").row(3, "#".repeat(24)).still(NONE, "longest");
    }

    static void longestOfLikeOnesIsTheFirst() {
        about(19, "LONGEST: the RUN of greatest SIZE (100 times the ROW, and the RUN), of like ones the first; NONE.");
        Run x = new Run().row(3, ".#".repeat(12));
        x.still(300, "longest");
        x.row(3, ".#".repeat(11) + "..").still(311, "longest");
        x.row(2, "..").still(200, "longest");
        x.row(1, ".#..#..").still(101, "longest");
        x.row(0, "#.#.#.#..").still(3, "longest");
        x.row(3, GAPS).still(300, "longest");
        x.row(0, GAPS).still(0, "longest");
    }

    // ---- promise 20

    static void closeOfNoPlaces() {
        about(20, "NO: part, no PLACES.");
        Run x = new Run();
        for (int part : new int[] {0, 1, -1, 2, LOW, HIGH}) {
            x.refused(NO, "close", part);
        }
        x.row(3, ".").still(0, "close", 0);
        x.still(1, "close", 1);
        x.row(3, "").refused(NO, "close", 0);
        x.refused(NO, "close", 1);
    }

    static void closeHasTwoParts() {
        about(20, "part 0 above, 1 below the line");
        for (int part : new int[] {-1, 2, LOW, HIGH}) {
            Run.full().refused(NO, "close", part);
        }
    }

    private static void dueClose(long above, long below, String... rows) {
        Run x = new Run();
        for (int row = 0; row < rows.length; row++) {
            x.row(row, rows[row]);
        }
        x.still(above, "close", 0);
        x.still(below, "close", 1);
    }

    static void closeIsInLowestTerms() {
        about(20, "CLOSE: part 0 above, 1 below the line, in lowest terms.");
        String all = "#".repeat(24);
        dueClose(0, 1, GAPS, GAPS, GAPS, GAPS);
        dueClose(1, 1, all, all, all, all);
        dueClose(1, 2, all, GAPS, GAPS, all);
        dueClose(1, 96, GAPS, GAPS, GAPS, "#" + ".".repeat(23));
        dueClose(95, 96, all, all, all, "." + "#".repeat(23));
        dueClose(1, 48, GAPS, "#" + ".".repeat(23), GAPS, "#" + ".".repeat(23));
        dueClose(1, 1, "#");
        dueClose(0, 1, "", ".");
        dueClose(2, 3, "##.", "#.#", ".##");
        dueClose(5, 7, "#####", "..");
        dueClose(3, 95, GAPS, GAPS, GAPS, "###" + ".".repeat(20));
    }
}
