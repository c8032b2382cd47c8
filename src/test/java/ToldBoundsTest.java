import java.util.ArrayList;
import java.util.List;

/** Promises 21 to 27, what was told of a row: each sentence of the document that names a boundary case, by a test of its own. */
public final class ToldBoundsTest extends Bounds {
    private static final String GAPS = ".".repeat(24);

    public static void main(String[] args) throws ReflectiveOperationException {
        Checks.runAll(ToldBoundsTest.class, 21, 27);
    }

    // ---- promise 21: refusals

    static void tellsOfNoSheetNobodyNoRowNothing() {
        about(21, "BAD: SHEET, none such, what; -11");
        for (int no : new int[] {-1, 4, LOW, HIGH}) {
            Run.full().refused(BAD, "tells", no, 0, 0, 0);
            Run.full().refused(BAD, "tells", 0, 0, no, 0);
        }
        for (int no : new int[] {-1, 3, 5, LOW, HIGH}) {
            Run.full().refused(BAD, "tells", 0, no, 0, 0);
        }
        for (int no : new int[] {-1, 8, LOW, HIGH}) {
            Run.full().refused(BAD, "tells", 0, 0, 0, no);
        }
        for (int what = 0; what <= 7; what++) {
            new Run().sheet(0, 0).refused(BAD, "tells", 0, 0, 0, what);
        }
    }

    static void whatIsZeroToSeven() {
        about(21, "the first that is otherwise (what 0; NONE), KINDS (1), NUMBERS (2), APRONS: how many (3), the least (4; NONE),"
            + " TEXTS (5), GLEANERS (6), ROWS (7).");
        Run x = Run.ruled("takes 1+(apron<7);keeps 0;shakes 0;").one(0, 0, 9).one(1, 0, 9).one(5, 0, 9);
        x.row(0, "..#..").row(1, "..").row(2, "..#..").sheet(0, 0, 1, 1);
        long[] due = {NONE, 0b001011, 1023, 93, 7, 0b10, 0b011, 0b0101};
        for (int what = 0; what <= 7; what++) {
            x.still(due[what], "tells", 0, 0, 0, what);
        }
        x.refused(BAD, "tells", 0, 0, 0, 8);
        x.refused(BAD, "tells", 0, 0, 0, -1);
    }

    static void theFirstRefusalThatTheWordsName() {
        about(21, "Refusals, the first that the call's words name; they change nothing");
        Run.full().refused(BAD, "tells", 4, 0, 0, 0);
        Run.full().refused(NOTHING, "tells", 3, 0, 2, 0);
        Run.full().refused(BAD, "tells", 0, 0, 2, 0);
        Run.full().refused(BAD, "tells", 3, 0, 2, 9);
    }

    static void tellsOfAMissingSheet() {
        about(21, "BAD: SHEET, none such, what; -11; BAD: it tells more than there are RUNS.");
        for (int what = 0; what <= 7; what++) {
            Run.full().refused(NOTHING, "tells", 3, 0, 0, what);
            Run.full().refused(NOTHING, "tells", 3, 2, 3, what);
        }
        Run.full().refused(BAD, "tells", 3, 3, 0, 0);
        Run.full().refused(BAD, "tells", 3, -1, 0, 0);
        Run.full().refused(BAD, "tells", 3, 0, 4, 0);
        Run.full().refused(BAD, "tells", 3, 0, -1, 0);
        Run.full().refused(BAD, "tells", 3, 0, 0, 8);
        Run.full().refused(BAD, "tells", 3, 0, 0, -1);
    }

    static void aSheetMayTellOfAsManyRunsAsThereAreOrFewer() {
        about(21, "(as many as there are, or fewer)");
        Run x = new Run().one(2, 0, 0).row(0, ".#".repeat(12)).row(1, ".#.").row(2, "#");
        int[][] sheets = {{}, {1}, {1, 1}, {1, 1, 1}};
        for (int sheet = 0; sheet < 4; sheet++) {
            x.sheet(sheet, 2, sheets[sheet]);
            for (int row = 0; row < 4; row++) {
                int runs = new int[] {12, 2, 0, 0}[row];
                if (sheet <= runs) {
                    x.still(NONE, "tells", sheet, 0, row, 0);
                } else {
                    for (int what = 0; what <= 7; what++) {
                        x.refused(BAD, "tells", sheet, 0, row, what);
                    }
                }
            }
        }
        int[] twelve = new int[12];
        java.util.Arrays.fill(twelve, 1);
        x.sheet(0, 1, twelve).still(NONE, "tells", 0, 0, 0, 0);
        x.sheet(0, 1, new int[13]).refused(BAD, "tells", 0, 0, 0, 0);
        x.sheet(0, 1, new int[40]).refused(BAD, "tells", 0, 0, 0, 7);
    }

    // ---- promise 21: answers

    static void theFirstThatIsOtherwise() {
        about(21, "the first that is otherwise; NONE");
        Run x = new Run().one(2, 0, 0).row(0, ".#".repeat(12));
        x.due(1, "sheet", 0, 0, 12);
        for (int i = 0; i < 12; i++) {
            x.due(i, "tells", 0, 0, 0, 0);
            x.due(1, "cell", 0, i, 1);
        }
        x.still(NONE, "tells", 0, 0, 0, 0);
        for (int i = 11; i >= 0; i--) {
            x.due(1, "cell", 0, i, i % 2 == 0 ? 2 : -1);
            x.due(i, "tells", 0, 0, 0, 0);
        }
    }

    static void itIsToldAsOneGleansNow() {
        about(21, "a SHEET tells how much one TAKES of RUN 0, 1, .. of a ROW, GLEANING it now");
        Run x = Run.ruled("takes nth+(row<9)+(apron<5)*2;keeps 0;shakes 0;").one(0, 0, 4).row(0, "...#...#...");
        x.sheet(0, 0, 2, 1, 3).still(NONE, "tells", 0, 0, 0, 0);
        x.sheet(0, 0, 2, 2, 3).still(1, "tells", 0, 0, 0, 0);
    }

    static void whatAnOldOnePutsIsToldAsFarAsThereIsRoom() {
        about(21, "as far as the ROW has fewer than 24 PLACES then");
        Run x = new Run().one(4, 9, 20).row(0, ".#.").row(1, "." + "#".repeat(20)).row(2, GAPS);
        x.sheet(0, 2, -9, -9).still(NONE, "tells", 0, 0, 0, 0);
        x.sheet(0, 2, -3).still(NONE, "tells", 0, 0, 1, 0);
        x.sheet(0, 2, -9).still(0, "tells", 0, 0, 1, 0);
        x.sheet(0, 2, 0).still(NONE, "tells", 0, 0, 2, 0);
        x.sheet(0, 0, -9, 247).still(NONE, "tells", 0, 0, 0, 0);
        x.sheet(0, 1, -9, 65527).still(NONE, "tells", 0, 0, 0, 0);
    }

    private static void dueTold(long want, Run x, int what, int... items) {
        x.sheet(3, 2, items).still(want, "tells", 3, 0, 0, what);
    }

    static void kindsAreBitsZeroToFive() {
        about(21, "KINDS (bits 0 .. 5)");
        for (int kind = 0; kind <= 5; kind++) {
            Run x = Run.ruled("takes 1;keeps 0;shakes 0;").one(kind, 9, 0).row(0, "..");
            dueTold(63, x, 1);
            dueTold(0b001011, x, 1, 1);
            dueTold(0b010100, x, 1, 2);
            dueTold(0b100000, x, 1, 0);
            dueTold(0, x, 1, 3);
            x.due(9, "set", 1, 0, 0);
            dueTold(0b110000, x, 1, 0);
        }
    }

    static void numbersAreBitsZeroToNine() {
        about(21, "NUMBERS (bits 0 .. 9)");
        for (int number = 0; number <= 9; number += 3) {
            Run x = Run.ruled("takes number;keeps 0;shakes 0;").one(0, number, 0).row(0, GAPS);
            dueTold(1023, x, 2);
            dueTold(1, x, 2, 0);
            dueTold(1 << 9, x, 2, 9);
            dueTold(0, x, 2, 10);
            dueTold(0, x, 2, -1);
        }
        Run x = new Run().one(4, 5, 9).row(0, ".");
        dueTold(1 << 9, x, 2, -9);
        dueTold(1, x, 2, 0);
    }

    static void apronsAreZeroToNinetyNine() {
        about(21, "APRONS (of 0 .. 99: how many, the least)");
        for (int apron : new int[] {0, 50, 500, 999}) {
            Run x = Run.ruled("takes apron;keeps 0;shakes 0;").one(0, 0, apron).row(0, GAPS);
            dueTold(100, x, 3);
            dueTold(0, x, 4);
            dueTold(1, x, 3, 0);
            dueTold(0, x, 4, 0);
            dueTold(76, x, 3, 24);
            dueTold(24, x, 4, 24);
            about(21, "the least (4; NONE)");
            dueTold(0, x, 3, 25);
            dueTold(NONE, x, 4, 25);
        }
    }

    static void theLastApronIsNinetyNine() {
        about(21, "APRONS (of 0 .. 99: how many, the least)");
        Run x = Run.ruled("takes apron=99;keeps 0;shakes 0;").one(0, 0, 0).row(0, "..");
        dueTold(1, x, 3, 1);
        dueTold(99, x, 4, 1);
        dueTold(99, x, 3, 0);
        dueTold(0, x, 4, 0);
        Run y = Run.ruled("takes 99<apron;keeps 0;shakes 0;").one(0, 0, 100).row(0, "..");
        dueTold(NONE, y, 0, 1);
        dueTold(0, y, 3, 1);
        dueTold(NONE, y, 4, 1);
        dueTold(100, y, 3, 0);
    }

    static void textsAreBitsOfThoseThereAre() {
        about(21, "TEXTS (bits), were they THE RULE, by which all would be so");
        Run x = new Run().one(0, 0, 0).row(0, ".........");
        dueTold(1, x, 5);
        dueTold(1, x, 5, 9);
        dueTold(0, x, 5, 5);
        for (int text = 1; text <= 5; text++) {
            x.dueText(text, "takes " + text + ";keeps 0;shakes 0;");
            dueTold((1 << text + 1) - 1, x, 5);
        }
        for (int text = 1; text <= 5; text++) {
            dueTold(1 << text, x, 5, text);
        }
        dueTold(1, x, 5, 9);
        dueTold(0, x, 5, 6);
        x.due(0, "force", 5);
        dueTold(1, x, 5, 9);
        dueTold(1 << 5, x, 5, 5);
    }

    static void gleanersAreBitsOfThoseThereAre() {
        about(21, "GLEANERS (bits) of whom it is so");
        Run x = Run.ruled("takes number;keeps 0;shakes 0;").row(0, "....");
        for (int one = 0; one < 5; one++) {
            x.one(0, one % 2 == 0 ? 1 : 2, 0);
            dueTold((1 << one + 1) - 1, x, 6);
        }
        dueTold(0b10101, x, 6, 1);
        dueTold(0b01010, x, 6, 2);
        dueTold(0, x, 6, 3);
    }

    static void rowsAreBitsOfThoseThatHaveAsManyRuns() {
        about(21, "ROWS (bits) of which it is so (that have as many RUNS at least)");
        Run x = new Run().one(2, 0, 0).row(0, "..").row(1, "#").row(2, "...").row(3, "..#...");
        dueTold(0b1111, x, 7);
        dueTold(0b1001, x, 7, 2);
        dueTold(0b0100, x, 7, 3);
        dueTold(0, x, 7, 1);
        x.sheet(3, 2, 2, 3).still(0b1000, "tells", 3, 0, 3, 7);
        x.sheet(3, 2, 2, 2).still(0, "tells", 3, 0, 3, 7);
        Run y = new Run().one(2, 0, 0);
        dueTold(0b1111, y, 7);
        y.row(0, ".").row(1, ".").row(2, ".").row(3, ".");
        dueTold(0b1111, y, 7, 1);
        y.row(0, ".#.");
        dueTold(0b1111, y, 7, 1);
        dueTold(0b0001, y, 7, 1, 1);
    }

    static void aSheetWithoutItemsIsSoOfAll() {
        about(21, "(as many as there are, or fewer)");
        Run x = new Run().one(5, 9, 999);
        long[] due = {NONE, 63, 1023, 100, 0, 1, 1, 15};
        for (int what = 0; what <= 7; what++) {
            for (int sort = 0; sort <= 2; sort++) {
                x.sheet(0, sort).still(due[what], "tells", 0, 0, 2, what);
            }
        }
    }

    // ---- promise 22

    static void filmOfNoSheetNobodyNoRow() {
        about(22, "how many RUNS. BAD.");
        for (int no : new int[] {-1, 4, LOW, HIGH}) {
            Run.full().refused(BAD, "film", no, 0, 0);
            Run.full().refused(BAD, "film", 0, 0, no);
        }
        for (int no : new int[] {-1, 3, 5, LOW, HIGH}) {
            Run.full().refused(BAD, "film", 0, no, 0);
        }
        new Run().row(0, "..").refused(BAD, "film", 0, 0, 0);
    }

    static void filmOnEachSheet() {
        about(22, "A SHEET truly becomes how much one TAKES of each RUN of a ROW, GLEANING it now (bytes): how many RUNS.");
        Run x = new Run().one(2, 0, 0).row(3, "..#...#.").sheet(1, 2, new int[40]).sheet(2, 1, 5);
        for (int sheet = 0; sheet < 4; sheet++) {
            x.due(3, "film", sheet, 0, 3);
            x.dueSheet(sheet, 0, 3);
            x.due(NONE, "tells", sheet, 0, 3, 0);
        }
        x.dueRow(3, "..#...#.");
        x.due(0, "told", 0, 2);
    }

    static void filmOfARowWithoutRuns() {
        about(22, "of each RUN of a ROW, GLEANING it now (bytes): how many RUNS");
        Run x = new Run().one(2, 0, 0).row(1, "###").sheet(0, 2, 1, 2, 3);
        x.due(0, "film", 0, 0, 0);
        x.dueSheet(0, 0, 0);
        x.due(0, "film", 3, 0, 1);
        x.dueSheet(3, 0, 0);
        x.due(OUTSIDE, "cell", 3, 0, 1);
    }

    static void filmOfTwelveRuns() {
        about(22, "of each RUN of a ROW, GLEANING it now (bytes): how many RUNS");
        Run x = Run.ruled("takes nth<11;keeps 0;shakes 0;").one(0, 0, 0).row(0, "#.".repeat(12));
        x.due(12, "film", 0, 0, 0);
        x.dueSheet(0, 0, 12);
        x.due(NONE, "tells", 0, 0, 0, 0);
        x.sheet(1, 0, 1, 1, 1, 1, 1, 1, 1, 1, 1, 1, 1, 0);
        x.due(NONE, "tells", 1, 0, 0, 0);
    }

    static void filmOfTheMostAndTheLeast() {
        about(22, "of each RUN of a ROW, GLEANING it now (bytes)");
        Run x = new Run().one(2, 0, 0).one(4, 9, 999).row(0, GAPS).row(1, ".#.").row(2, ".".repeat(20));
        x.due(1, "film", 0, 0, 0);
        x.sheet(3, 2, 24).still(NONE, "tells", 3, 0, 0, 0);
        x.still(NONE, "tells", 0, 0, 0, 0);
        x.due(2, "film", 1, 1, 1);
        x.still(NONE, "tells", 1, 1, 1, 0);
        x.due(1, "film", 2, 1, 2);
        x.still(NONE, "tells", 2, 1, 2, 0);
        x.still(0, "tells", 2, 0, 2, 0);
        x.dueRow(1, ".#.");
        x.due(999, "told", 1, 2);
    }

    static void filmChangesTheSheetAlone() {
        about(22, "A SHEET truly becomes");
        Run x = Run.full();
        x.due(3, "film", 3, 0, 0);
        x.due(1, "sheet", 3, -1, 0);
        x.dueLike("all but the sheet", Run.full());
    }

    // ---- promises 23, 24

    /** The gaps of a drawn row, as bits, by longs. */
    private static int gapsDrawn(int seed) {
        int gaps = 0;
        long z = seed;
        for (int k = 0; k < 24; k++) {
            z = z * 1103515245L + 12345L & 0xffffffffL;
            gaps |= (z >> 9) % 3 == 0 ? 1 << k : 0;
        }
        return gaps;
    }

    static void drawnForNobody() {
        about(23, "DRAWN. -100: none such.");
        new Run().refused(NO_ANSWER, "drawn", 1, 0);
        for (int no : new int[] {-1, 3, 5, LOW, HIGH}) {
            Run.full().refused(NO_ANSWER, "drawn", 1, no);
        }
    }

    static void drawnByAnySeed() {
        about(23, "z being z * 1103515245 + 12345 (an int; SEED at first) anew for each");
        Run x = new Run().one(2, 0, 0);
        for (int one = 1; one < 5; one++) {
            x.one(3, 0, 0);
        }
        int[] seeds = {0, 1, -1, 2, 511, 512, 65535, 65536, LOW, LOW + 1, HIGH, HIGH - 1, 1103515245, -12345, 123456789};
        for (int seed : seeds) {
            int gaps = gapsDrawn(seed);
            int ofSizeOne = gaps & ~(gaps << 1) & ~(gaps >> 1);
            x.due(Integer.bitCount(gaps), "drawn", seed, 0);
            x.due(Integer.bitCount(gaps & ~ofSizeOne), "drawn", seed, 4);
        }
        x.still(Integer.bitCount(gapsDrawn(7)), "drawn", 7, 0);
    }

    static void placesAreDrawnOneBehindTheOther() {
        about(23, "PLACE k a STALK, if (z >>> 9) % 3 isn't 0");
        Run x = Run.ruled("takes (nth=0)*99;keeps 0;shakes 0;").one(0, 0, 0);
        Run y = Run.ruled("takes (nth=1)*99;keeps 0;shakes 0;").one(0, 0, 0);
        for (int seed = -40; seed < 40; seed++) {
            int gaps = gapsDrawn(seed * 54321);
            int first = gaps >> Integer.numberOfTrailingZeros(gaps);
            int size = Integer.numberOfTrailingZeros(~first);
            int behind = first >> size;
            int second = behind == 0 ? 0 : behind >> Integer.numberOfTrailingZeros(behind);
            x.due(size, "drawn", seed * 54321, 0);
            y.due(Integer.numberOfTrailingZeros(~second), "drawn", seed * 54321, 0);
        }
    }

    static void aDrawnRowHas24Places() {
        about(23, "DRAWN by a SEED: a ROW of 24 PLACES");
        Run x = Run.ruled("takes row=24;keeps 0;shakes 0;").one(0, 0, 0).one(4, 9, 9).row(0, "....").row(3, GAPS);
        for (int seed = 0; seed < 20; seed++) {
            x.due(1, "drawn", seed, 0);
            x.due(0, "drawn", seed, 1);
        }
        x.still(1, "drawn", 5, 0);
    }

    private static void dueChance(Run x, int seed, int m, int k) {
        int many = 0;
        int next = seed;
        for (int i = 0; i < m; i++) {
            many += Integer.bitCount(gapsDrawn(next)) >= k ? 1 : 0;
            next++;
        }
        int divisor = java.math.BigInteger.valueOf(many).gcd(java.math.BigInteger.valueOf(m)).intValue();
        x.due(many / divisor, "chance", seed, m, 0, k, 0);
        x.due(m / divisor, "chance", seed, m, 0, k, 1);
    }

    static void chanceInOneToTwentySeeds() {
        about(24, "IN m seeds (1 .. 20), SEED and each 1 more (an int)");
        for (int m = 1; m <= 20; m++) {
            Run x = new Run().one(2, 0, 0);
            for (int k = 0; k <= 24; k++) {
                dueChance(x, 100 * m, m, k);
            }
        }
        for (int m : new int[] {0, -1, 21, LOW, HIGH}) {
            Run.full().refused(NO, "chance", 1, m, 0, 5, 0);
        }
    }

    static void theSeedIsAnIntThatWraps() {
        about(24, "SEED and each 1 more (an int)");
        for (int seed : new int[] {HIGH, HIGH - 1, HIGH - 18, HIGH - 19, HIGH - 20, -1, -20, LOW}) {
            Run x = new Run().one(2, 0, 0);
            for (int k = 4; k <= 12; k++) {
                dueChance(x, seed, 20, k);
                dueChance(x, seed, 2, k);
            }
        }
    }

    static void chanceOfZeroToTwentyFour() {
        about(24, "of these those by which that is k (0 .. 24) or more");
        Run x = new Run().one(2, 0, 0).one(0, 0, 0);
        for (int one = 0; one < 2; one++) {
            x.still(1, "chance", 3, 20, one, 0, 0);
            x.still(1, "chance", 3, 20, one, 0, 1);
            x.still(0, "chance", 3, 20, one, 24, 0);
            x.still(1, "chance", 3, 20, one, 24, 1);
        }
        int all = Integer.bitCount(gapsDrawn(3));
        x.still(1, "chance", 3, 1, 0, all, 0);
        x.still(0, "chance", 3, 1, 0, all + 1, 0);
        for (int k : new int[] {-1, 25, LOW, HIGH}) {
            Run.full().refused(NO, "chance", 1, 5, 0, k, 0);
        }
    }

    static void chanceOfNobodyAndOfNoPart() {
        about(24, "NO: m, none such, k, part.");
        new Run().refused(NO, "chance", 1, 5, 0, 5, 0);
        for (int no : new int[] {-1, 3, 5, LOW, HIGH}) {
            Run.full().refused(NO, "chance", 1, 5, no, 5, 1);
        }
        for (int no : new int[] {-1, 2, LOW, HIGH}) {
            Run.full().refused(NO, "chance", 1, 5, 0, 5, no);
        }
        Run.full().refused(NO, "chance", 1, 0, 9, 25, 2);
    }

    static void chanceIsInLowestTerms() {
        about(24, "part 0 above, 1 below the line, in lowest terms");
        List<Integer> below = new ArrayList<>();
        Run x = new Run().one(2, 0, 0);
        for (int seed = 0; seed < 100; seed++) {
            int k = 8;
            int many = 0;
            for (int i = 0; i < 20; i++) {
                many += Integer.bitCount(gapsDrawn(seed + i)) >= k ? 1 : 0;
            }
            if (!below.contains(many)) {
                below.add(many);
                dueChance(x, seed, 20, k);
            }
        }
        Checks.due("several chances were asked", below.size() > 4 ? 1 : 0, 1);
    }

    // ---- promises 25, 26

    static void imageOfNobodyAndOfFive() {
        about(25, "AN IMAGE is kept: how many GLEANERS.");
        Run x = new Run();
        x.due(0, "image");
        for (int one = 1; one <= 5; one++) {
            x.one(0, 0, 0);
            x.due(one, "image");
            x.due(one, "back");
        }
    }

    static void anImageChangesNothingElse() {
        about(25, "AN IMAGE is kept");
        Run x = Run.full();
        x.due(3, "image");
        x.due(3, "back");
        Run y = Run.full();
        y.due(3, "image");
        x.dueLike("behind an image and back", y);
    }

    static void aLaterImageTakesTheFirstOnesPlace() {
        about(25, "AN IMAGE is kept");
        Run x = new Run().row(0, ".").at(1);
        x.due(0, "image");
        x.row(0, "..").at(2).one(0, 0, 2);
        x.due(1, "image");
        x.row(0, "...").at(3).one(0, 0, 3);
        x.due(1, "back");
        x.dueRow(0, "..");
        x.due(2, "told", 0, 0);
        x.due(2, "told", 0, 2);
    }

    static void thereIsNoImageAtFirst() {
        about(26, "STATE: there is none.");
        new Run().refused(STATE, "back");
        Run x = new Run().one(0, 0, 7).row(0, "..").at(999);
        x.refused(STATE, "back");
        x.due(1, "image");
        x.due(1, "back");
        x.still(1, "back");
    }

    static void backToAllThatAnImageKeeps() {
        about(26, "AN IMAGE keeps ROWS, NIGHT, NUMBERS, APRONS, THE RULE");
        Run x = Run.ruled("takes 1;keeps 0;shakes 0;").one(1, 4, 8).one(2, 0, 0).at(999).row(0, "..#").row(3, GAPS);
        x.due(2, "image");
        x.due(4, "set", 1, 0, 9);
        x.due(8, "set", 2, 0, 999);
        x.due(0, "set", 1, 1, 3);
        x.due(0, "set", 2, 1, 5);
        x.due(1, "force", 0);
        x.at(0).row(0, "").row(1, "..").row(2, "#").row(3, ".");
        x.due(2, "back");
        x.due(4, "told", 0, 1);
        x.due(8, "told", 0, 2);
        x.due(1, "told", 0, 3);
        x.due(0, "told", 1, 1);
        x.due(0, "told", 1, 2);
        x.due(2, "told", 1, 3);
        x.due(1, "count", 5);
        x.due(999, "count", 2);
        x.dueRow(0, "..#");
        x.dueRow(1, "");
        x.dueRow(2, "");
        x.dueRow(3, GAPS);
    }

    static void backBehindNightsAndGleaning() {
        about(26, "All that it keeps is as in THE IMAGE: how many GLEANERS.");
        Run x = Run.ruled("takes 1;keeps 10;shakes 2;").one(0, 0, 50).one(4, 1, 1).row(0, ".#.").row(1, "..");
        x.due(2, "image");
        x.due(2, "glean", 0, 0);
        x.due(2, "go", 1, 21);
        Checks.due("night", x.answer("night") >= 0 ? 1 : 0, 1);
        x.due(2, "back");
        Run y = Run.ruled("takes 1;keeps 10;shakes 2;").one(0, 0, 50).one(4, 1, 1).row(0, ".#.").row(1, "..");
        y.due(2, "image");
        x.dueLike("behind back", y);
    }

    static void gleanersThatCameSinceGo() {
        about(26, "(GLEANERS that came since go)");
        Run x = new Run().one(0, 1, 1);
        x.due(1, "image");
        for (int one = 1; one < 5; one++) {
            x.one(2, 9, 999);
        }
        x.due(FULL, "gleaner", 0, 0);
        x.due(1, "back");
        x.due(1, "count", 0);
        for (int one = 1; one < 5; one++) {
            x.due(BAD, "told", one, 1);
            x.due(NOTHING, "taken", one, 0);
            x.due(NO_ANSWER, "glean", one, 0);
        }
        for (int one = 1; one < 5; one++) {
            x.due(one, "gleaner", 5, 0);
            x.due(5, "told", one, 3);
            x.due(0, "told", one, 1);
            x.due(0, "told", one, 2);
        }
        x.due(FULL, "gleaner", 0, 0);
    }

    static void anImageOfNobody() {
        about(26, "(GLEANERS that came since go)");
        Run x = new Run();
        x.due(0, "image");
        x.one(0, 1, 1).one(0, 1, 1);
        x.due(0, "back");
        x.due(0, "count", 0);
        x.due(0, "go", 0, 0);
        x.due(BAD, "go", 0, 12);
        x.due(NO_ANSWER, "drawn", 0, 0);
    }

    static void anImageKeepsNoTextsNoTapeNoSheets() {
        about(26, "AN IMAGE keeps ROWS, NIGHT, NUMBERS, APRONS, THE RULE");
        Run x = new Run().one(0, 0, 0);
        x.due(1, "image");
        x.rule(1, "takes 1;keeps 0;shakes 0;").fed("takes 2;keeps 0;shakes 0;").sheet(0, 1, 7, 8);
        x.due(1, "back");
        x.due(0, "count", 5);
        x.due(2, "count", 3);
        x.due(25, "count", 4);
        x.dueSheet(0, 1, 2);
        x.due(2, "text");
        x.due(0, "force", 1);
        x.due(1, "asks", 0, 9);
        x.due(1, "force", 2);
        x.due(2, "asks", 0, 9);
    }

    static void theImageStaysWhateverComes() {
        about(26, "All that it keeps is as in THE IMAGE");
        Run x = new Run().one(2, 3, 5).row(0, "...").at(4);
        x.due(1, "image");
        for (int i = 0; i < 3; i++) {
            x.due(3, "glean", 0, 0);
            x.due(3, "set", 1, 0, 9);
            x.at(9);
            x.due(1, "back");
            x.dueRow(0, "...");
            x.due(5, "told", 0, 2);
            x.due(3, "told", 0, 1);
            x.due(4, "told", 0, 0);
        }
    }

    // ---- promise 27

    static void countOfEach() {
        about(27, "0 GLEANERS, 1 GAPS of all ROWS, 2 NIGHT, 3 TEXTS, 4 bytes of THE TAPE, 5 THE RULE");
        long[] due = {3, 11, 12, 2, 24, 1};
        long[] none = {0, 0, 0, 1, 0, 0};
        for (int what = 0; what <= 5; what++) {
            Run.full().still(due[what], "count", what);
            new Run().still(none[what], "count", what);
        }
    }

    static void countOfNothingElse() {
        about(27, "5 THE RULE. BAD.");
        for (int what : new int[] {-1, 6, LOW, HIGH}) {
            Run.full().refused(BAD, "count", what);
        }
    }

    static void countOfTheMost() {
        about(27, "How many");
        Run x = new Run().row(0, GAPS).row(1, GAPS).row(2, GAPS).row(3, GAPS).at(999);
        for (int one = 0; one < 5; one++) {
            x.one(0, 0, 0);
        }
        for (int text = 1; text <= 5; text++) {
            x.rule(text, "takes 1;keeps 0;shakes 0;");
        }
        for (int i = 1; i <= 160; i++) {
            x.due(i, "feed", 0);
        }
        long[] due = {5, 96, 999, 6, 160, 5};
        for (int what = 0; what <= 5; what++) {
            x.due(due[what], "count", what);
        }
    }
}
