/** Promises 11 to 15, gleaning and nights: each sentence of the document that names a boundary case, by a test of its own. */
public final class GleaningBoundsTest extends Bounds {
    private static final String GAPS = ".".repeat(24);

    public static void main(String[] args) throws ReflectiveOperationException {
        Checks.runAll(GleaningBoundsTest.class, 11, 15);
    }

    private static String stalks(int many) {
        return "#".repeat(many);
    }

    private static String gaps(int many) {
        return ".".repeat(many);
    }

    // ---- promise 11

    static void gleanOfNobody() {
        about(11, "how much is TAKEN. -100: none such.");
        new Run().row(0, "...").refused(NO_ANSWER, "glean", 0, 0);
        for (int one : new int[] {-1, 3, 4, 5, LOW, HIGH}) {
            Run.full().refused(NO_ANSWER, "glean", one, 0);
        }
    }

    static void gleanOfNoRow() {
        about(11, "-100: none such.");
        for (int row : new int[] {-1, 4, LOW, HIGH}) {
            Run.full().refused(NO_ANSWER, "glean", 0, row);
        }
        Run.full().refused(NO_ANSWER, "glean", 3, 4);
    }

    static void gleanOfTheFirstAndOfTheLast() {
        about(11, "GLEANED, truly: how much is TAKEN.");
        Run x = new Run();
        for (int one = 0; one < 5; one++) {
            x.one(2, 0, one);
        }
        for (int row = 0; row < 4; row++) {
            x.row(row, "..#.");
        }
        x.due(3, "glean", 0, 0);
        x.due(3, "glean", 4, 3);
        x.due(3, "told", 0, 2);
        x.due(7, "told", 4, 2);
        x.dueRow(0, "#");
        x.dueRow(1, "..#.");
        x.dueRow(2, "..#.");
        x.dueRow(3, "#");
        for (int one = 1; one < 4; one++) {
            x.due(one, "told", one, 2);
        }
    }

    static void runsAreCountedAsTheyWereAhead() {
        about(11, "one goes along a ROW, RUN by RUN (as these are ahead)");
        Run x = Run.ruled("takes (nth=0)*9+(nth=2)*9;keeps 0;shakes 0;").one(0, 0, 0).row(0, "..#..#..");
        x.due(4, "glean", 0, 0);
        x.dueRow(0, "#..#");
    }

    static void theLengthIsAsItIsThen() {
        about(11, "each told as all is then");
        Run x = Run.ruled("takes row-7;keeps 0;shakes 0;").one(0, 0, 0).row(0, "...#...#.");
        x.due(2, "glean", 0, 0);
        x.dueRow(0, ".#...#.");
        Run y = Run.ruled("takes row-23;keeps 0;shakes 0;").one(0, 0, 0).row(0, GAPS);
        y.due(1, "glean", 0, 0);
        y.due(0, "glean", 0, 0);
    }

    static void theApronIsAsItIsThen() {
        about(11, "each told as all is then");
        Run x = Run.ruled("takes apron=0;keeps 0;shakes 0;").one(0, 0, 0).row(0, "..#..");
        x.due(1, "glean", 0, 0);
        x.dueRow(0, ".#..");
    }

    static void gleanARowWithoutGaps() {
        about(11, "GLEANED, truly: how much is TAKEN.");
        Run x = new Run().one(2, 0, 5).row(1, stalks(24));
        x.still(0, "glean", 0, 0);
        x.still(0, "glean", 0, 1);
    }

    static void gleanARowOfGapsAlone() {
        about(11, "the ROW has as many GAPS fewer there");
        Run x = new Run().one(2, 0, 5).row(1, GAPS);
        x.due(24, "glean", 0, 1);
        x.dueRow(1, "");
        x.due(29, "told", 0, 2);
    }

    static void gleanTwelveRuns() {
        about(11, "one goes along a ROW, RUN by RUN (as these are ahead)");
        Run x = Run.ruled("takes nth=11;keeps 0;shakes 0;").one(0, 0, 0).row(0, ".#".repeat(12)).row(1, "#.".repeat(12));
        x.due(1, "glean", 0, 0);
        x.dueRow(0, ".#".repeat(11) + "#");
        x.due(1, "glean", 0, 1);
        x.dueRow(1, "#.".repeat(11) + "#");
        Run y = new Run().one(2, 0, 0).row(0, ".#".repeat(12));
        y.due(12, "glean", 0, 0);
        y.dueRow(0, stalks(12));
    }

    static void theApronIsBounded() {
        about(11, "the APRON so much more (or less; 0 .. 999, else the bound)");
        int[] ahead = {993, 994, 995, 998, 999};
        int[] behind = {998, 999, 999, 999, 999};
        for (int i = 0; i < ahead.length; i++) {
            Run x = new Run().one(2, 0, ahead[i]).row(0, ".....");
            x.due(5, "glean", 0, 0);
            x.due(behind[i], "told", 0, 2);
        }
    }

    static void theApronIsBoundedRunByRun() {
        about(11, "the APRON so much more (or less; 0 .. 999, else the bound)");
        Run x = Run.ruled("takes 2+(apron=999);keeps 0;shakes 0;").one(0, 0, 998).row(0, "....#....");
        x.due(5, "glean", 0, 0);
        x.dueRow(0, "..#.");
        x.due(999, "told", 0, 2);
    }

    static void anOldOnePutsAllThatItHas() {
        about(11, "the APRON so much more (or less; 0 .. 999, else the bound)");
        Run x = new Run().one(4, 9, 9).row(0, "#.#");
        x.due(-9, "glean", 0, 0);
        x.due(0, "told", 0, 2);
        x.dueRow(0, "#" + gaps(10) + "#");
        x.due(10, "glean", 0, 0);
        x.due(10, "told", 0, 2);
        x.dueRow(0, "##");
    }

    static void anOldOnePutsAsFarAsThereIsRoom() {
        about(11, "so many GAPS are put to the RUN, as far as the ROW has fewer than 24 PLACES then");
        int[] ahead = {14, 15, 16, 22, 23, 24};
        int[] put = {9, 9, 8, 2, 1, 0};
        for (int i = 0; i < ahead.length; i++) {
            Run x = new Run().one(4, 9, 20).row(2, "." + stalks(ahead[i] - 1));
            x.due(-put[i], "glean", 0, 2);
            x.dueRow(2, gaps(1 + put[i]) + stalks(ahead[i] - 1));
            x.due(20 - put[i], "told", 0, 2);
        }
    }

    static void theRoomIsAsItIsThen() {
        about(11, "as far as the ROW has fewer than 24 PLACES then");
        Run x = new Run().one(4, 2, 9).row(0, ".#." + stalks(18));
        x.due(-3, "glean", 0, 0);
        x.dueRow(0, "...#.." + stalks(18));
        x.due(6, "told", 0, 2);
        Run y = new Run().one(4, 3, 2).row(0, ".#" + gaps(22));
        y.due(0, "glean", 0, 0);
        y.dueRow(0, "#" + gaps(23));
        y.due(2, "told", 0, 2);
    }

    static void whatIsPutCountsBelowZero() {
        about(11, "how much is TAKEN, together (what is put counts below 0)");
        Run x = new Run().one(4, 5, 9).row(0, "..#..");
        x.due(-3, "glean", 0, 0);
        x.dueRow(0, ".......#");
        x.due(6, "told", 0, 2);
    }

    static void anOldOneOfNumberZeroPutsNothing() {
        about(11, "OLD: 0 less NUMBER, if the APRON has as much, else as a RICH");
        new Run().one(4, 0, 0).row(0, "..#.").still(0, "glean", 0, 0);
        new Run().one(4, 0, 999).row(0, "..#.").still(0, "glean", 0, 0);
    }

    // ---- promise 12

    static void goOfNoRow() {
        about(12, "LEFT then. BAD: row, no ORDER.");
        for (int row : new int[] {-1, 4, LOW, HIGH}) {
            Run.full().refused(BAD, "go", row, 123);
        }
        Run.full().refused(BAD, "go", 4, 12);
    }

    static void theFirstIsTheHighestDigit() {
        about(12, "ALL in an ORDER (digits: 1 more than each GLEANER, the first the highest; all there are, each once)");
        int[] orders = {12, 21};
        int[][] aprons = {{1, 2}, {0, 3}};
        for (int i = 0; i < 2; i++) {
            Run x = Run.ruled("takes 1;keeps 0;shakes 0;").one(0, 0, 0).one(2, 0, 0).row(3, "...");
            x.due(0, "go", 3, orders[i]);
            x.due(aprons[i][0], "told", 0, 2);
            x.due(aprons[i][1], "told", 1, 2);
            x.dueRow(3, "");
        }
    }

    static void ordersOfThree() {
        about(12, "all there are, each once");
        for (int order : new int[] {123, 132, 213, 231, 312, 321}) {
            Run x = Run.ruled("takes 1;keeps 0;shakes 0;").one(0, 0, 0).one(0, 0, 0).one(0, 0, 0).row(0, "....");
            x.due(1, "go", 0, order);
        }
        int[] none = {0, 1, 3, 12, 23, 32, 122, 124, 223, 111, 333, 120, 321 * 10, 1234, 1123, 1230, 10123, 1023, 23, -123, -321,
            -1, 120 + 3000, 999, LOW, HIGH};
        for (int order : none) {
            Run.full().refused(BAD, "go", 0, order);
        }
    }

    static void theOrderOfNobody() {
        about(12, "all there are, each once");
        Run x = new Run().row(0, "..#.");
        x.still(3, "go", 0, 0);
        for (int order : new int[] {1, -1, 10, 100, LOW, HIGH}) {
            x.refused(BAD, "go", 0, order);
        }
    }

    static void theOrderOfOne() {
        about(12, "all there are, each once");
        Run x = Run.ruled("takes 1;keeps 0;shakes 0;").one(0, 0, 0).row(0, "..#.");
        for (int order : new int[] {0, 2, 11, 10, 12, 21, -1, LOW, HIGH}) {
            x.refused(BAD, "go", 0, order);
        }
        x.due(1, "go", 0, 1);
    }

    static void theOrdersOfFive() {
        about(12, "all there are, each once");
        Run x = Run.ruled("takes 1;keeps 0;shakes 0;");
        for (int one = 0; one < 5; one++) {
            x.one(0, 0, 0);
        }
        x.row(0, GAPS);
        for (int order : new int[] {12344, 11345, 22345, 12346, 12340, 2345, 1234, 123456, 0, 54320, 64321, -12345, -54321, LOW, HIGH}) {
            x.refused(BAD, "go", 0, order);
        }
        x.due(19, "go", 0, 12345);
        x.due(14, "go", 0, 54321);
        x.due(9, "go", 0, 53142);
        x.due(0, "go", 1, 12345);
    }

    // ---- promise 13

    static void theLastNightIs999() {
        about(13, "STATE: NIGHT is 999.");
        Run x = Run.full();
        x.at(998);
        Checks.due("night of 998", x.answer("night") >= 0 ? 1 : 0, 1);
        x.due(999, "told", 0, 0);
        x.refused(STATE, "night");
        x.due(STATE, "night");
        x.due(999, "set", 0, 0, 998);
        Checks.due("night of 998", x.answer("night") >= 0 ? 1 : 0, 1);
        x.due(STATE, "night");
    }

    static void nightIsOneMore() {
        about(13, "NIGHT is 1 more");
        Run x = new Run();
        x.due(0, "night");
        x.due(1, "count", 2);
        x.due(0, "night");
        x.due(2, "count", 2);
    }

    static void allIsToldAheadOfTheNight() {
        about(13, "of all GLEANERS what one KEEPS, then of all ROWS, by numbers, by what they are SHAKEN is told; then all is so");
        Run x = Run.ruled("takes 0;keeps night*10;shakes night;").one(0, 0, 100).one(0, 0, 200).at(3).row(2, "#");
        x.due(12, "night");
        x.due(30, "told", 0, 2);
        x.due(60, "told", 1, 2);
        for (int row = 0; row < 4; row++) {
            x.dueRow(row, row == 2 ? "#..." : "...");
        }
        x.due(4, "told", 0, 0);
    }

    static void eachRowIsShakenByItsOwnGaps() {
        about(13, "shakes telling v of that ROW): so many GAPS come at its end");
        Run x = Run.ruled("takes 0;keeps 0;shakes gap+row;").row(0, "").row(1, "#").row(2, ".#.").row(3, "...");
        x.due(0 + 1 + 6 + 9, "night");
        x.dueRow(0, "");
        x.dueRow(1, "#.");
        x.dueRow(2, ".#.....");
        x.dueRow(3, gaps(9));
    }

    static void aRowIsShakenAsFarAsThereIsRoom() {
        about(13, "so many GAPS come at its end, as far as there are fewer than 24 PLACES");
        int[] ahead = {0, 14, 15, 16, 22, 23, 24};
        int[] come = {9, 9, 9, 8, 2, 1, 0};
        for (int i = 0; i < ahead.length; i++) {
            Run x = Run.ruled("takes 0;keeps 0;shakes (row=1)*9;").row(1, stalks(ahead[i]));
            x.due(come[i], "night");
            x.dueRow(1, stalks(ahead[i]) + gaps(come[i]));
        }
    }

    static void aNightOfNobodyWithoutPlaces() {
        about(13, "A NIGHT, truly: GAPS of all ROWS then.");
        Run x = new Run();
        x.due(0, "night");
        x.due(1, "told", 0, 0);
        Run y = new Run().row(0, GAPS).row(1, GAPS).row(2, GAPS).row(3, GAPS);
        y.due(96, "night");
    }

    static void whatIsKeptIsInTheApronThen() {
        about(13, "KEEPS (by night, of so much in the APRON, keeps telling v hundredths)");
        Run x = Run.ruled("takes 0;keeps 50;shakes 0;").one(1, 9, 999).one(2, 9, 999).one(3, 9, 17).one(4, 9, 999).one(5, 9, 999);
        x.due(0, "night");
        int[] aprons = {499, 999, 0, 499, 0};
        for (int one = 0; one < 5; one++) {
            x.due(aprons[one], "told", one, 2);
        }
    }

    // ---- promise 14

    static void triesOfNobodyAndOfNoRow() {
        about(14, "-100: none such, what.");
        new Run().row(0, "...").refused(NO_ANSWER, "tries", 0, 0, 0);
        for (int no : new int[] {-1, 3, 5, LOW, HIGH}) {
            Run.full().refused(NO_ANSWER, "tries", no, 0, 0);
        }
        for (int no : new int[] {-1, 4, LOW, HIGH}) {
            Run.full().refused(NO_ANSWER, "tries", 0, no, 0);
            Run.full().refused(NO_ANSWER, "tries", 0, 0, no);
        }
        Run.full().refused(NO_ANSWER, "tries", 9, 9, 9);
    }

    static void triesIsInThought() {
        about(14, "GLEANED, in thought: TAKEN (what 0), LEFT (1), APRON then (2), the greatest SIZE then (3).");
        Run x = Run.ruled("takes 2;keeps 0;shakes 0;").one(0, 0, 0).one(2, 0, 998).row(0, "...#....#.").row(3, GAPS);
        long[] some = {5, 3, 5, 2};
        long[] all = {8, 0, 999, 0};
        long[] full = {24, 0, 999, 0};
        for (int what = 0; what < 4; what++) {
            x.still(some[what], "tries", 0, 0, what);
            x.still(all[what], "tries", 1, 0, what);
            x.still(full[what], "tries", 1, 3, what);
        }
    }

    static void triesOfAnEmptyRow() {
        about(14, "GLEANED, in thought: TAKEN (what 0), LEFT (1)");
        Run x = new Run().one(2, 0, 7).row(1, stalks(24));
        long[] due = {0, 0, 7, 0};
        for (int what = 0; what < 4; what++) {
            x.still(due[what], "tries", 0, 0, what);
            x.still(due[what], "tries", 0, 1, what);
        }
    }

    static void triesOfAnOldOneAtTheLastPlaces() {
        about(14, "as far as the ROW has fewer than 24 PLACES then");
        Run x = new Run().one(4, 9, 9).row(0, gaps(20)).row(1, GAPS);
        long[] some = {-4, 24, 5, 24};
        long[] none = {0, 24, 9, 24};
        for (int what = 0; what < 4; what++) {
            x.still(some[what], "tries", 0, 0, what);
            x.still(none[what], "tries", 0, 1, what);
        }
    }

    // ---- promise 15

    static void nightsOfNobodyAndOfNoRow() {
        about(15, "n NIGHTS: APRON of one (what 0), LEFT (1). BAD.");
        new Run().row(0, "...").refused(BAD, "nights", 0, 0, 1, 1);
        for (int no : new int[] {-1, 3, 5, LOW, HIGH}) {
            Run.full().refused(BAD, "nights", no, 0, 1, 0);
        }
        for (int no : new int[] {-1, 4, LOW, HIGH}) {
            Run.full().refused(BAD, "nights", 0, no, 1, 0);
        }
        for (int no : new int[] {-1, 2, LOW, HIGH}) {
            Run.full().refused(BAD, "nights", 0, 0, 1, no);
        }
        Run.full().refused(BAD, "nights", 9, 9, 99, 9);
    }

    static void nightsAreZeroToTwenty() {
        about(15, "n NIGHTS (0 .. 20), in thought");
        Run x = Run.ruled("takes 1;keeps 100;shakes 0;").one(0, 0, 5).row(3, GAPS);
        x.still(5, "nights", 0, 3, 0, 0);
        x.still(24, "nights", 0, 3, 0, 1);
        x.still(6, "nights", 0, 3, 1, 0);
        x.still(23, "nights", 0, 3, 1, 1);
        x.still(25, "nights", 0, 3, 20, 0);
        x.still(4, "nights", 0, 3, 20, 1);
        for (int n : new int[] {-1, 21, LOW, HIGH}) {
            Run.full().refused(BAD, "nights", 0, 0, n, 0);
            Run.full().refused(BAD, "nights", 0, 0, n, 1);
        }
    }

    static void nightMayPass999InThought() {
        about(15, "(there NIGHT may pass 999)");
        Run x = Run.ruled("takes 0;keeps 0;shakes night=1018;").one(0, 0, 0).at(999);
        x.still(0, "nights", 0, 2, 19, 1);
        x.still(1, "nights", 0, 2, 20, 1);
        x.due(999, "told", 0, 0);
        Run y = Run.ruled("takes 0;keeps 0;shakes night=1019;").one(0, 0, 0).at(999);
        y.due(0, "nights", 0, 2, 20, 1);
        Run z = Run.ruled("takes 0;keeps 0;shakes (night=999)*4+(night=1000)*3;").one(0, 0, 0).at(999);
        z.due(4, "nights", 0, 2, 1, 1);
        z.due(7, "nights", 0, 2, 2, 1);
        z.due(7, "nights", 0, 2, 20, 1);
    }

    static void aheadOfEachAllGleanByNumbers() {
        about(15, "ahead of each all GLEAN ROW r by numbers: APRON of one then; LEFT of ROW r then");
        Run x = Run.ruled("takes 2;keeps 100;shakes 3;").one(0, 0, 0).one(0, 0, 0).row(0, "...").row(1, GAPS);
        x.still(2, "nights", 0, 0, 1, 0);
        x.still(1, "nights", 1, 0, 1, 0);
        x.still(3, "nights", 0, 0, 1, 1);
        x.still(4, "nights", 0, 0, 2, 0);
        x.still(2, "nights", 1, 0, 2, 0);
        x.still(3, "nights", 1, 0, 2, 1);
        x.still(24, "nights", 0, 1, 0, 1);
        x.still(23, "nights", 0, 1, 1, 1);
    }

    static void nightsOfAnApronAtItsBound() {
        about(15, "0 .. 999, else the bound");
        Run x = Run.ruled("takes 0;keeps 100;shakes 9;").one(2, 0, 990);
        x.still(990, "nights", 0, 0, 1, 0);
        x.still(999, "nights", 0, 0, 2, 0);
        x.still(999, "nights", 0, 0, 20, 0);
        x.still(9, "nights", 0, 0, 20, 1);
    }
}
