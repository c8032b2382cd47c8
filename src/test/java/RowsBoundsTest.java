/** Promises 1 to 7, rows and gleaners: each sentence of the document that names a boundary case, by a test of its own. */
public final class RowsBoundsTest extends Bounds {
    private static final int ALL_STALKS = (1 << 24) - 1;
    private static final String GAPS = ".".repeat(24);

    public static void main(String[] args) throws ReflectiveOperationException {
        Checks.runAll(RowsBoundsTest.class, 1, 7);
    }

    // ---- promise 1

    static void aNewObjectHasNoPlaces() {
        about(1, "No PLACES, no GLEANERS.");
        Run x = new Run();
        for (int row = 0; row < 4; row++) {
            for (int what = 5; what <= 10; what++) {
                x.due(0, "told", row, what);
            }
            x.due(BAD, "run", row, 0);
        }
        x.due(0, "count", 1);
        x.due(NO, "close", 0);
        x.due(NONE, "longest");
    }

    static void aNewObjectHasNoGleaners() {
        about(1, "No PLACES, no GLEANERS.");
        Run x = new Run();
        x.due(0, "count", 0);
        for (int what = 1; what <= 4; what++) {
            x.due(BAD, "told", 0, what);
        }
        x.due(0, "gleaner", 0, 0);
    }

    static void aNewObjectHasNightZero() {
        about(1, "NIGHT (0 .. 999; 0 at first)");
        new Run().due(0, "told", 0, 0);
        new Run().due(0, "count", 2);
    }

    static void aNewObjectHasTextZeroAlone() {
        about(1, "TEXT 0, at first THE RULE, is: takes gap ; keeps 50 ; shakes 0 ;");
        Run x = new Run();
        x.due(1, "count", 3);
        x.due(0, "count", 4);
        x.due(0, "count", 5);
        x.one(0, 0, 999);
        for (int g = 1; g <= 24; g++) {
            x.due(g, "asks", 0, g);
        }
        x.due(499, "told", 0, 4);
        x.row(3, GAPS.substring(1)).due(0, "told", 3, 10);
    }

    static void aNewObjectHasNoSheetsAndNoImage() {
        about(1, "or missing (as all are at first)");
        Run x = new Run();
        for (int sheet = 0; sheet < 4; sheet++) {
            x.due(NOTHING, "cell", sheet, 0, 0);
        }
        x.due(STATE, "back");
    }

    static void oneObjectIsNothingToAnother() {
        about(1, "No PLACES, no GLEANERS.");
        Run fresh = new Run();
        Run.full();
        fresh.dueLike("a new object behind another's calls", new Run());
    }

    static void theConstants() {
        about(1, "NONE is -1; NO, where a long is answered, -4611686018427387904.");
        Checks.due("NONE", GleanersForGaps.NONE, -1);
        Checks.due("NO", GleanersForGaps.NO, -4611686018427387904L);
        about(1, "BAD (-2: a number is none such or not as told), STATE (-3), FULL (-4)");
        Checks.due("BAD", GleanersForGaps.BAD, -2);
        Checks.due("STATE", GleanersForGaps.STATE, -3);
        Checks.due("FULL", GleanersForGaps.FULL, -4);
    }

    // ---- promise 2

    static void layTakesRowsZeroToThree() {
        about(2, "ROWS 0 .. 3");
        Run x = new Run();
        for (int row = 0; row <= 3; row++) {
            x.due(1, "lay", row, 2, 1);
        }
        x.due(4, "count", 1);
        for (int row : new int[] {-1, 4, LOW, HIGH}) {
            Run.full().refused(BAD, "lay", row, 2, 1);
        }
    }

    static void aRowHasTwentyFourPlacesAtMost() {
        about(2, "each of PLACES 0, 1, .., 24 at most (none at first), each a STALK or a GAP");
        Run x = new Run().one(4, 9, 999);
        x.due(0, "told", 3, 5);
        x.row(3, GAPS).due(24, "told", 3, 5);
        x.refused(BAD, "lay", 3, 25, 0);
        x.due(0, "glean", 0, 3);
        x.due(24, "told", 3, 5);
    }

    static void layTakesNoPlacesToTwentyFour() {
        about(2, "A ROW becomes of so many PLACES (0 .. 24)");
        Run x = new Run();
        x.due(0, "lay", 0, 0, 0);
        x.due(0, "told", 0, 5);
        x.due(24, "lay", 0, 24, 0);
        x.due(24, "told", 0, 5);
        for (int length : new int[] {-1, 25, 31, 32, 33, LOW, HIGH}) {
            Run.full().refused(BAD, "lay", 0, length, 0);
        }
    }

    static void layTakesStalksOfThesePlacesAlone() {
        about(2, "STALKS (bits of these)");
        for (int length = 0; length <= 24; length++) {
            Run x = new Run();
            int all = (1 << length) - 1;
            x.due(0, "lay", 1, length, all);
            x.due(all, "told", 1, 6);
            x.due(length, "lay", 1, length, 0);
            x.refused(BAD, "lay", 1, length, all + 1);
            x.refused(BAD, "lay", 1, length, -1);
        }
        for (int stalks : new int[] {LOW, HIGH, 1 << 24, 1 << 30}) {
            Run.full().refused(BAD, "lay", 0, 24, stalks);
        }
    }

    static void bitZeroIsPlaceZero() {
        about(2, "told as LENGTH (how many PLACES) and as bits (bit k: PLACE k is a STALK)");
        Run x = new Run();
        x.due(23, "lay", 0, 24, 1);
        x.due(23, "run", 0, 0);
        x.due(23, "lay", 1, 24, 1 << 23);
        x.due(23, "run", 1, 0);
        x.due(22, "lay", 2, 24, 1 | 1 << 23);
        x.due(22, "run", 2, 0);
        x.due(23, "lay", 3, 24, 1 << 10);
        x.due(10, "run", 3, 0);
        x.due(13, "run", 3, 1);
        int[] bits = {1, 1 << 23, 1 | 1 << 23, 1 << 10};
        for (int row = 0; row < 4; row++) {
            x.due(bits[row], "told", row, 6);
        }
    }

    static void aRowThatIsLaidAnewHasNothingOfBefore() {
        about(2, "A ROW becomes of so many PLACES (0 .. 24) and STALKS (bits of these): GAPS in it then.");
        Run x = new Run();
        x.due(0, "lay", 0, 24, ALL_STALKS);
        x.row(0, "...");
        x.dueRow(0, "...");
        x.row(0, "");
        x.dueRow(0, "");
        x.row(0, GAPS);
        x.dueRow(0, GAPS);
        x.dueRow(1, "");
    }

    static void layOfSeveralWrongNumbersIsBad() {
        about(2, "GAPS in it then. BAD.");
        Run.full().refused(BAD, "lay", 4, 25, 1);
        Run.full().refused(BAD, "lay", 4, 3, 8);
        Run.full().refused(BAD, "lay", -1, -1, -1);
    }

    // ---- promise 3

    static void nightIsSetFromZeroTo999() {
        about(3, "NIGHT (what 0; of does not matter)");
        Run x = new Run();
        x.due(0, "set", 0, 0, 999);
        x.due(999, "told", 0, 0);
        x.due(999, "set", 0, 0, 0);
        x.due(0, "told", 0, 0);
        Run.full().refused(BAD, "set", 0, 0, -1);
        Run.full().refused(BAD, "set", 0, 0, 1000);
        Run.full().refused(BAD, "set", 0, 0, LOW);
        Run.full().refused(BAD, "set", 0, 0, HIGH);
    }

    static void nightIsSetWhoeverIsNamed() {
        about(3, "of does not matter");
        Run x = new Run();
        int was = 0;
        for (int of : new int[] {0, -1, 4, 5, LOW, HIGH}) {
            x.due(was, "set", 0, of, was + 1);
            was++;
        }
        x.due(was, "count", 2);
    }

    static void numberIsSetFromZeroToNine() {
        about(3, "a NUMBER (0 .. 9)");
        Run x = new Run().one(0, 5, 0);
        x.due(5, "set", 1, 0, 9);
        x.due(9, "set", 1, 0, 0);
        x.due(0, "told", 0, 1);
        for (int v : new int[] {-1, 10, LOW, HIGH}) {
            Run.full().refused(BAD, "set", 1, 0, v);
        }
    }

    static void apronIsSetFromZeroTo999() {
        about(3, "so much in the APRON (0 .. 999; 0 as one comes)");
        Run x = new Run();
        x.due(0, "gleaner", 0, 5);
        x.due(0, "set", 2, 0, 999);
        x.due(999, "set", 2, 0, 0);
        x.due(0, "told", 0, 2);
        for (int v : new int[] {-1, 1000, LOW, HIGH}) {
            Run.full().refused(BAD, "set", 2, 0, v);
        }
    }

    static void setNeedsAGleaner() {
        about(3, "NUMBER (1), APRON (2) of a GLEANER becomes v: what it was. BAD.");
        for (int what = 1; what <= 2; what++) {
            new Run().refused(BAD, "set", what, 0, 1);
            Run x = new Run().one(0, 5, 5).one(0, 5, 5).one(0, 5, 5);
            x.due(5, "set", what, 2, 3);
            x.due(3, "told", 2, what);
            x.due(5, "told", 0, what);
            x.due(5, "told", 1, what);
            for (int of : new int[] {-1, 3, 4, 5, LOW, HIGH}) {
                x.refused(BAD, "set", what, of, 1);
            }
        }
    }

    static void setOfNothingElse() {
        about(3, "becomes v: what it was. BAD.");
        for (int what : new int[] {-1, 3, 4, LOW, HIGH}) {
            Run.full().refused(BAD, "set", what, 0, 1);
        }
        Run.full().refused(BAD, "set", 3, 9, -1);
        Run.full().refused(BAD, "set", 1, 3, 10);
        Run.full().refused(BAD, "set", 2, -1, 1000);
    }

    // ---- promise 4

    static void kindsAreZeroToFive() {
        about(4, "0 GLEANER, 1 WIDOW under GLEANER, 2 RICH under GLEANER, 3 LARK under WIDOW, 4 OLD under RICH, 5 CHILD under GLEANER");
        for (int kind = 0; kind <= 5; kind++) {
            Run x = new Run();
            x.due(0, "gleaner", kind, 1);
            x.due(kind, "told", 0, 3);
        }
        for (int kind : new int[] {-1, 6, LOW, HIGH}) {
            Run.full().refused(BAD, "gleaner", kind, 1);
        }
    }

    static void numbersAreZeroToNine() {
        about(4, "a NUMBER (0 .. 9)");
        Run x = new Run();
        x.due(0, "gleaner", 0, 0);
        x.due(1, "gleaner", 0, 9);
        x.due(0, "told", 0, 1);
        x.due(9, "told", 1, 1);
        for (int number : new int[] {-1, 10, LOW, HIGH}) {
            Run.full().refused(BAD, "gleaner", 0, number);
        }
    }

    static void fiveGleanersAtMost() {
        about(4, "GLEANERS (5 at most, numbered from 0)");
        Run x = new Run();
        for (int one = 0; one < 5; one++) {
            x.due(one, "gleaner", one, one);
            x.due(one + 1, "count", 0);
        }
        x.refused(FULL, "gleaner", 0, 0);
        x.refused(FULL, "gleaner", 5, 9);
    }

    static void aBadSixthIsBad() {
        about(4, "A GLEANER: the number. BAD; FULL.");
        Run x = new Run();
        for (int one = 0; one < 5; one++) {
            x.one(one, one, one);
        }
        x.refused(BAD, "gleaner", 6, 0);
        x.refused(BAD, "gleaner", -1, 0);
        x.refused(BAD, "gleaner", 0, 10);
        x.refused(BAD, "gleaner", 0, -1);
    }

    static void theApronIsEmptyAsOneComes() {
        about(4, "0 as one comes");
        Run x = new Run();
        x.due(0, "image");
        x.one(2, 9, 999);
        x.due(0, "back");
        x.due(0, "gleaner", 0, 4);
        x.due(0, "told", 0, 2);
        x.due(4, "told", 0, 1);
        x.due(0, "told", 0, 3);
    }

    // ---- promise 5

    static void toldOfTheNightWhoeverIsNamed() {
        about(5, "What 0 .. 2 as of set()");
        Run x = new Run().at(999);
        for (int of : new int[] {0, -1, 5, LOW, HIGH}) {
            x.still(999, "told", of, 0);
        }
    }

    static void toldOfAGleaner() {
        about(5, "3 KIND, 4 KEEPS of a GLEANER");
        Run x = new Run().one(1, 2, 30).one(5, 9, 999);
        int[] first = {2, 30, 1, 15};
        int[] last = {9, 999, 5, 0};
        for (int what = 1; what <= 4; what++) {
            x.still(first[what - 1], "told", 0, what);
            x.still(last[what - 1], "told", 1, what);
            for (int of : new int[] {-1, 2, 4, 5, LOW, HIGH}) {
                x.refused(BAD, "told", of, what);
            }
            new Run().refused(BAD, "told", 0, what);
        }
    }

    static void toldOfARow() {
        about(5, "of a ROW 5 LENGTH, 6 STALKS (bits), 7 LEFT, 8 how many RUNS");
        Run x = Run.ruled("takes 0;keeps 0;shakes 1+row;").row(0, ".#..").row(3, "##...#");
        int[] first = {4, 2, 3, 2, 2, 1};
        int[] last = {6, 35, 3, 1, 3, 4};
        for (int what = 5; what <= 10; what++) {
            x.still(first[what - 5], "told", 0, what);
            x.still(last[what - 5], "told", 3, what);
            for (int of : new int[] {-1, 4, LOW, HIGH}) {
                Run.full().refused(BAD, "told", of, what);
            }
        }
    }

    static void toldOfNothingElse() {
        about(5, "10 by what it would be SHAKEN. BAD.");
        for (int what : new int[] {-1, 11, LOW, HIGH}) {
            Run.full().refused(BAD, "told", 0, what);
        }
        Run.full().refused(BAD, "told", 9, 11);
    }

    static void toldOfAnEmptyAndOfAFullRow() {
        about(5, "9 the greatest SIZE (0: no RUNS)");
        Run x = new Run().row(1, "#".repeat(24)).row(2, GAPS).row(3, ".#".repeat(12));
        int[][] due = {{0, 0, 0, 0, 0}, {24, ALL_STALKS, 0, 0, 0}, {24, 0, 24, 1, 24}, {24, 0xaaaaaa, 12, 12, 1}};
        for (int row = 0; row < 4; row++) {
            for (int what = 5; what <= 9; what++) {
                x.still(due[row][what - 5], "told", row, what);
            }
        }
    }

    static void theGreatestSizeMayStandAnywhere() {
        about(5, "9 the greatest SIZE");
        Run x = new Run().row(0, "...#.#..").row(1, "..#...#.").row(2, ".#..#...");
        for (int row = 0; row < 3; row++) {
            x.due(3, "told", row, 9);
            x.due(3, "told", row, 8);
        }
    }

    static void quotientsAreCutTowardZero() {
        about(5, "Quotients are cut toward 0.");
        dueKept(0, "99", 0, 0, 1);
        dueKept(1, "99", 0, 0, 2);
        dueKept(98, "99", 0, 0, 99);
        dueKept(0, "50", 4, 0, 1);
        about(7, "Quotients are cut toward 0.");
        dueTaken(0, "1", 5, 0, 0, 24);
        dueTaken(2, "5", 5, 0, 0, 24);
    }

    private static void dueKept(long want, String keeps, int kind, int number, int apron) {
        Run.ruled("takes 0;keeps " + keeps + ";shakes 0;").one(kind, number, apron).still(want, "told", 0, 4);
    }

    static void keptByAGleaner() {
        about(5, "GLEANER: v hundredths (cut)");
        dueKept(999, "100", 0, 9, 999);
        dueKept(989, "99", 0, 9, 999);
        dueKept(9, "1", 0, 9, 999);
        dueKept(0, "1", 0, 9, 99);
        dueKept(1, "1", 0, 9, 100);
        dueKept(0, "0", 0, 9, 999);
        dueKept(0, "50", 0, 9, 1);
        dueKept(1, "50", 0, 9, 2);
        dueKept(0, "100", 0, 9, 0);
    }

    static void keptByAWidow() {
        about(5, "WIDOW: as a GLEANER; RICH: all");
        dueKept(999, "100", 1, 9, 999);
        dueKept(0, "1", 1, 9, 99);
        dueKept(0, "0", 1, 9, 999);
    }

    static void keptByARichOne() {
        about(5, "RICH: all");
        dueKept(999, "0", 2, 9, 999);
        dueKept(999, "100", 2, 9, 999);
        dueKept(1, "50", 2, 9, 1);
        dueKept(0, "100", 2, 0, 0);
    }

    static void keptByALark() {
        about(5, "LARK: NUMBER less than a WIDOW");
        dueKept(990, "100", 3, 9, 999);
        dueKept(999, "100", 3, 0, 999);
        dueKept(1, "50", 3, 9, 20);
        dueKept(0, "50", 3, 9, 19);
        dueKept(0, "50", 3, 9, 18);
        about(5, "(0 .. 999, else the bound.)");
        dueKept(0, "50", 3, 9, 17);
        dueKept(0, "0", 3, 1, 999);
        dueKept(0, "100", 3, 9, 0);
    }

    static void keptByAnOldOne() {
        about(5, "OLD: half (cut) of a RICH's");
        dueKept(499, "0", 4, 9, 999);
        dueKept(499, "100", 4, 9, 999);
        dueKept(499, "100", 4, 9, 998);
        dueKept(1, "0", 4, 9, 2);
        dueKept(0, "100", 4, 9, 1);
        dueKept(0, "100", 4, 9, 0);
    }

    static void keptByAChild() {
        about(5, "CHILD: 0");
        dueKept(0, "100", 5, 0, 999);
        dueKept(0, "100", 5, 9, 0);
    }

    static void whatKeepsTellsHasBounds() {
        about(5, "keeps (0 .. 100, else the bound)");
        dueKept(100, "100", 0, 0, 100);
        dueKept(100, "101", 0, 0, 100);
        dueKept(100, "9999*9999", 0, 0, 100);
        dueKept(0, "0", 0, 0, 100);
        dueKept(0, "-1", 0, 0, 100);
        dueKept(0, "-9999*9999", 0, 0, 100);
        dueKept(0, "9999*9999*22", 0, 0, 100);
        dueKept(90, "101", 3, 9, 99);
    }

    static void whatShakesTellsHasBounds() {
        about(5, "shakes (0 .. 9, else the bound)");
        String[] told = {"-1", "0", "1", "9", "10", "9999*9999", "9999*9999*22"};
        int[] due = {0, 0, 1, 9, 9, 9, 0};
        for (int i = 0; i < due.length; i++) {
            Run.ruled("takes 0;keeps 0;shakes " + told[i] + ";").due(due[i], "told", 3, 10);
        }
    }

    static void byWhatItWouldBeShakenHasNoNeedOfRoom() {
        about(5, "10 by what it would be SHAKEN");
        Run.ruled("takes 0;keeps 0;shakes 9;").row(1, GAPS).still(9, "told", 1, 10);
    }

    // ---- promise 6

    static void runsAreNumberedFromZero() {
        about(6, "RUNS of a ROW: GAPS on end, as many as there are, one behind the other, from PLACE 0 on, numbered from 0");
        Run x = new Run().row(0, "..#.##...").row(3, "#....");
        int[] sizes = {2, 1, 3};
        for (int k = 0; k < 3; k++) {
            x.still(sizes[k], "run", 0, k);
        }
        x.still(4, "run", 3, 0);
        about(6, "BAD: none such.");
        for (int k : new int[] {-1, 3, LOW, HIGH}) {
            x.refused(BAD, "run", 0, k);
        }
        x.refused(BAD, "run", 3, 1);
    }

    static void runOfNoRow() {
        about(6, "BAD: none such.");
        for (int row : new int[] {-1, 4, LOW, HIGH}) {
            Run.full().refused(BAD, "run", row, 0);
        }
    }

    static void runOfARowWithoutRuns() {
        about(6, "BAD: none such.");
        Run x = new Run().row(1, "#".repeat(24)).row(2, "#");
        for (int row = 0; row < 3; row++) {
            x.refused(BAD, "run", row, 0);
        }
    }

    static void runOfAFullRow() {
        about(6, "SIZE: how many GAPS");
        Run x = new Run().row(0, GAPS).row(1, ".").row(2, ".#".repeat(12)).row(3, "#.".repeat(12));
        x.due(24, "run", 0, 0);
        x.refused(BAD, "run", 0, 1);
        x.due(1, "run", 1, 0);
        x.refused(BAD, "run", 1, 1);
        for (int k = 0; k < 12; k++) {
            x.due(1, "run", 2, k);
            x.due(1, "run", 3, k);
        }
        x.refused(BAD, "run", 2, 12);
        x.refused(BAD, "run", 3, 12);
    }

    // ---- promise 7

    static void asksOfNobody() {
        about(7, "-100: none such, g.");
        new Run().refused(NO_ANSWER, "asks", 0, 1);
        Run x = new Run().one(0, 0, 0).one(0, 0, 0);
        x.still(1, "asks", 1, 1);
        for (int one : new int[] {-1, 2, 4, 5, LOW, HIGH}) {
            x.refused(NO_ANSWER, "asks", one, 1);
        }
        x.refused(NO_ANSWER, "asks", 2, 25);
    }

    static void asksOfSizesOneToTwentyFour() {
        about(7, "a RUN of SIZE g (1 .. 24)");
        Run x = new Run().one(0, 0, 0);
        x.still(1, "asks", 0, 1);
        x.still(24, "asks", 0, 24);
        for (int g : new int[] {-1, 0, 25, LOW, HIGH}) {
            x.refused(NO_ANSWER, "asks", 0, g);
        }
    }

    static void asksOfRunZeroInFullLength() {
        about(7, "it being RUN 0, and LENGTH 24");
        Run x = Run.ruled("takes (nth=0)*2+(row=24)*4;keeps 0;shakes 0;").one(0, 0, 0).row(0, "..");
        x.still(6, "asks", 0, 24);
        x.still(1, "asks", 0, 1);
    }

    static void whatAnOldOnePutsRoomOrNot() {
        about(7, "(below 0: what an OLD puts, room or not)");
        Run x = new Run().one(4, 9, 9);
        for (int row = 0; row < 4; row++) {
            x.row(row, GAPS);
        }
        x.still(-9, "asks", 0, 1);
        x.still(-9, "asks", 0, 24);
    }

    private static void dueTaken(long want, String takes, int kind, int number, int apron, int g) {
        Run.ruled("takes " + takes + ";keeps 0;shakes 0;").one(kind, number, apron).still(want, "asks", 0, g);
    }

    static void takenByAGleaner() {
        about(7, "GLEANER: v; WIDOW");
        dueTaken(0, "0", 0, 9, 9, 5);
        dueTaken(1, "1", 0, 9, 9, 5);
        dueTaken(4, "4", 0, 9, 9, 5);
        dueTaken(5, "5", 0, 9, 9, 5);
        about(7, "(0 .. g, else the bound");
        dueTaken(5, "6", 0, 9, 9, 5);
        dueTaken(1, "99", 0, 9, 9, 1);
        dueTaken(24, "99", 0, 9, 9, 24);
        dueTaken(0, "-1", 0, 9, 9, 24);
    }

    static void takenByAWidow() {
        about(7, "WIDOW: 1 more than a GLEANER, if g is odd, else as a GLEANER");
        dueTaken(1, "0", 1, 9, 9, 1);
        dueTaken(0, "0", 1, 9, 9, 2);
        dueTaken(1, "0", 1, 9, 9, 23);
        dueTaken(0, "0", 1, 9, 9, 24);
        dueTaken(4, "3", 1, 9, 9, 5);
        dueTaken(5, "4", 1, 9, 9, 5);
        dueTaken(3, "3", 1, 9, 9, 6);
        about(7, "(0 .. g, else the bound");
        dueTaken(5, "5", 1, 9, 9, 5);
        dueTaken(1, "1", 1, 9, 9, 1);
        dueTaken(6, "7", 1, 9, 9, 6);
        dueTaken(23, "99", 1, 9, 9, 23);
    }

    static void takenByARichOne() {
        about(7, "RICH: g");
        dueTaken(1, "0", 2, 9, 9, 1);
        dueTaken(24, "0", 2, 9, 9, 24);
        dueTaken(7, "99", 2, 9, 9, 7);
    }

    static void takenByALark() {
        about(7, "LARK: 0, if g is 1, else as a WIDOW");
        dueTaken(0, "0", 3, 9, 9, 1);
        dueTaken(0, "99", 3, 9, 9, 1);
        dueTaken(0, "0", 3, 9, 9, 2);
        dueTaken(2, "99", 3, 9, 9, 2);
        dueTaken(1, "0", 3, 9, 9, 3);
        dueTaken(3, "2", 3, 9, 9, 3);
        dueTaken(3, "3", 3, 9, 9, 3);
        dueTaken(3, "3", 3, 9, 9, 4);
        dueTaken(24, "99", 3, 9, 9, 24);
    }

    static void takenByAnOldOne() {
        about(7, "OLD: 0 less NUMBER, if the APRON has as much, else as a RICH");
        dueTaken(-5, "3", 4, 5, 5, 8);
        dueTaken(-5, "3", 4, 5, 6, 8);
        dueTaken(8, "3", 4, 5, 4, 8);
        dueTaken(8, "3", 4, 5, 0, 8);
        dueTaken(0, "3", 4, 0, 0, 8);
        dueTaken(0, "3", 4, 0, 999, 8);
        dueTaken(-1, "3", 4, 1, 1, 8);
        dueTaken(24, "0", 4, 1, 0, 24);
        dueTaken(-9, "0", 4, 9, 999, 1);
    }

    static void takenByAChild() {
        about(7, "CHILD: half (cut) of a GLEANER's");
        dueTaken(0, "0", 5, 9, 9, 24);
        dueTaken(0, "1", 5, 9, 9, 24);
        dueTaken(1, "2", 5, 9, 9, 24);
        dueTaken(1, "3", 5, 9, 9, 24);
        dueTaken(12, "24", 5, 9, 9, 24);
        dueTaken(0, "gap", 5, 9, 9, 1);
        about(7, "(0 .. g, else the bound");
        dueTaken(24, "99", 5, 9, 9, 24);
        dueTaken(1, "3", 5, 9, 9, 1);
    }

    static void whatTakesTellsHasBounds() {
        about(7, "takes (0 .. 99, else the bound)");
        dueTaken(1, "-1", 1, 0, 0, 5);
        dueTaken(0, "-2", 5, 0, 0, 5);
        dueTaken(1, "-9999*9999", 3, 0, 0, 5);
        dueTaken(0, "-9999*9999", 0, 0, 0, 24);
        String greatest = "9999*9999*21+9999*4790+8416";
        dueTaken(23, greatest, 1, 0, 0, 23);
        dueTaken(1, greatest + "+1", 1, 0, 0, 23);
        dueTaken(24, "100", 0, 0, 0, 24);
        dueTaken(24, "100", 5, 0, 0, 24);
    }
}
