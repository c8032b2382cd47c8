/** Promises 28 to 32, the host: each sentence of the document that names a boundary case, by a test of its own. */
public final class HostBoundsTest extends Bounds {
    public static void main(String[] args) throws ReflectiveOperationException {
        Checks.runAll(HostBoundsTest.class, 28, 32);
    }

    /** What items (0 .. 24) a sheet has: a rich one takes of a row just these; an item of 0 is left to others. */
    private static void dueItems(Run x, int sheet, int sort, int... items) {
        x.dueSheet(sheet, sort, items.length);
        StringBuilder row = new StringBuilder();
        for (int item : items) {
            row.append(row.length() == 0 ? "" : "#").append(".".repeat(item));
        }
        x.row(3, row.toString());
        x.due(NONE, "tells", sheet, 0, 3, 0);
    }

    private static Run rich() {
        return new Run().one(2, 0, 0);
    }

    /** One who takes nothing of any run, of a row that has twelve. */
    private static Run whoTakesNothing() {
        return Run.ruled("takes 0;keeps 0;shakes 0;").one(0, 0, 0).row(0, ".#".repeat(12));
    }

    // ---- promise 28

    static void sheetsAreZeroToThree() {
        about(28, "SHEETS 0 .. 3 are rows of numbers, or missing (as all are at first)");
        Run x = new Run();
        for (int sheet = 0; sheet < 4; sheet++) {
            x.due(NOTHING, "cell", sheet, 0, 0);
            x.due(1, "sheet", sheet, sheet % 3, sheet + 1);
        }
        for (int sheet = 0; sheet < 4; sheet++) {
            x.dueSheet(sheet, sheet % 3, sheet + 1);
        }
        about(28, "BAD: no such SHEET, sort; n above 40; -14.");
        for (int sheet : new int[] {-1, 4, LOW, HIGH}) {
            for (int sort = -1; sort <= 2; sort++) {
                Run.full().refused(BAD, "sheet", sheet, sort, 3);
            }
            Run.full().refused(BAD, "sheet", sheet, 0, -1);
        }
    }

    static void sortsAreZeroToTwo() {
        about(28, "of sort 0 bytes, 1 shorts, 2 ints");
        for (int sort = 0; sort <= 2; sort++) {
            Run x = new Run();
            x.due(1, "sheet", 0, sort, 2);
            x.dueSheet(0, sort, 2);
            for (int other = 0; other <= 2; other++) {
                x.due(other == sort ? 0 : OTHER, "gleaners", 0, other, 0, 0);
            }
        }
        for (int sort : new int[] {-2, 3, LOW, HIGH}) {
            Run.full().refused(BAD, "sheet", 0, sort, 3);
            Run.full().refused(BAD, "sheet", 0, sort, -1);
            Run.full().refused(BAD, "sheet", 0, sort, 41);
        }
    }

    static void aSheetHasFortyItemsAtMost() {
        about(28, "BAD: no such SHEET, sort; n above 40; -14.");
        for (int sort = 0; sort <= 2; sort++) {
            Run x = new Run();
            x.due(1, "sheet", 1, sort, 40);
            x.dueSheet(1, sort, 40);
            x.due(1, "cell", 1, 39, 1);
            x.due(OUTSIDE, "cell", 1, 40, 1);
            x.due(1, "sheet", 1, sort, 0);
            x.dueSheet(1, sort, 0);
            x.due(OUTSIDE, "cell", 1, 0, 1);
            Run.full().refused(BAD, "sheet", 0, sort, 41);
            Run.full().refused(BAD, "sheet", 0, sort, HIGH);
            about(28, "-14 a size below 0");
            Run.full().refused(BELOW, "sheet", 0, sort, -1);
            Run.full().refused(BELOW, "sheet", 0, sort, LOW);
        }
    }

    static void aSheetBecomesMissingWhateverNIs() {
        about(28, "or missing (sort -1: n does not matter): 1.");
        for (int n : new int[] {0, 1, 40, 41, -1, LOW, HIGH}) {
            Run x = new Run().sheet(2, 1, 5, 6);
            x.due(1, "sheet", 2, -1, n);
            x.due(NOTHING, "cell", 2, 0, 1);
            x.due(1, "sheet", 2, -1, n);
            x.due(NOTHING, "cell", 2, 0, 1);
        }
    }

    static void aSheetThatComesAnewIsAllZero() {
        about(28, "A SHEET becomes a row of n of a sort, all 0");
        Run x = whoTakesNothing();
        for (int sort = 0; sort <= 2; sort++) {
            x.sheet(0, 2, 1, 2, 3, 4, 5, 6, 7, 8, 9, 1, 2, 3);
            x.due(0, "tells", 0, 0, 0, 0);
            x.due(1, "sheet", 0, sort, 12);
            x.due(NONE, "tells", 0, 0, 0, 0);
        }
        x.sheet(0, 2, 1, 2, 3, 4, 5, 6, 7, 8, 9, 1, 2, 3);
        x.due(1, "sheet", 0, 0, 1);
        x.due(1, "sheet", 0, 0, 12);
        x.due(NONE, "tells", 0, 0, 0, 0);
        x.sheet(0, 2, 1, 2, 3, 4, 5, 6, 7, 8, 9, 1, 2, 3);
        x.due(1, "sheet", 0, -1, 0);
        x.due(1, "sheet", 0, 2, 12);
        x.due(NONE, "tells", 0, 0, 0, 0);
    }

    // ---- promise 29

    static void cellOfNoSheet() {
        about(29, "BAD: no such SHEET; -11; -12.");
        for (int sheet : new int[] {-1, 4, LOW, HIGH}) {
            Run.full().refused(BAD, "cell", sheet, 0, 1);
            Run.full().refused(BAD, "cell", sheet, -1, 1);
        }
    }

    static void cellOfAMissingSheet() {
        about(29, "-11 nothing where something is asked");
        for (int i : new int[] {0, -1, 40, LOW, HIGH}) {
            Run.full().refused(NOTHING, "cell", 3, i, 1);
        }
    }

    static void cellOutside() {
        about(29, "-12 a place outside");
        int[] sizes = {4, 2, 5};
        for (int sheet = 0; sheet < 3; sheet++) {
            for (int i : new int[] {-1, sizes[sheet], 39, 40, LOW, HIGH}) {
                Run.full().refused(OUTSIDE, "cell", sheet, i, 1);
            }
        }
        Run x = rich().sheet(0, 2, 7, 7, 7);
        x.due(1, "cell", 0, 0, 1);
        x.due(1, "cell", 0, 2, 3);
        dueItems(x, 0, 2, 1, 7, 3);
    }

    private static void dueCell(int sort, int v, int becomes) {
        Run x = rich().row(0, ".".repeat(5)).sheet(0, sort, v).sheet(1, sort, becomes);
        x.due(becomes == 5 ? NONE : 0, "tells", 0, 0, 0, 0);
    }

    static void bytesHaveTheLowestEightBits() {
        about(29, "(of bytes, shorts its lowest 8, 16 bits)");
        for (int v : new int[] {5, 261, -251, 256 * 1000 + 5, LOW + 5, HIGH - 250}) {
            dueCell(0, v, 5);
        }
        dueCell(0, 6, 6);
        dueCell(0, 5 + 128, 133);
        dueZero(0, 256, -256, 65536, LOW, 0x7fffff00);
    }

    static void shortsHaveTheLowestSixteenBits() {
        about(29, "(of bytes, shorts its lowest 8, 16 bits)");
        for (int v : new int[] {5, 65541, -65531, LOW + 5, HIGH - 65530}) {
            dueCell(1, v, 5);
        }
        dueCell(1, 261, 261);
        dueCell(1, 5 + 32768, 32773);
        dueZero(1, 65536, -65536, 1 << 20, LOW, 0x7fff0000);
    }

    static void intsHaveAllBits() {
        about(29, "Item i of a SHEET becomes v");
        dueCell(2, 5, 5);
        for (int v : new int[] {261, 65541, LOW + 5, -251, -65531, HIGH}) {
            dueCell(2, v, v);
        }
    }

    private static void dueZero(int sort, int... values) {
        Run x = whoTakesNothing().sheet(0, sort, values);
        x.due(NONE, "tells", 0, 0, 0, 0);
    }

    static void bytesAndShortsMayBeBelowZero() {
        about(29, "(of bytes, shorts its lowest 8, 16 bits)");
        Run x = new Run().one(4, 1, 9).row(0, ".");
        int[][] below = {{0, -1}, {0, 255}, {0, 65535}, {0, HIGH}, {1, -1}, {1, 65535}, {1, HIGH}, {2, -1}};
        for (int[] sortAndValue : below) {
            x.sheet(0, sortAndValue[0], sortAndValue[1]).due(NONE, "tells", 0, 0, 0, 0);
        }
        int[][] notBelow = {{0, 127}, {0, 1}, {1, 255}, {1, 32767}, {2, 255}, {2, 65535}, {2, HIGH}};
        for (int[] sortAndValue : notBelow) {
            x.sheet(0, sortAndValue[0], sortAndValue[1]).due(0, "tells", 0, 0, 0, 0);
        }
    }

    // ---- promise 30

    static void copyOfNoSheet() {
        about(30, "BAD: no such SHEET; -11; -13: they are of unlike sorts; -12 (also with n below 0).");
        for (int no : new int[] {-1, 4, LOW, HIGH}) {
            Run.full().refused(BAD, "copy", no, 0, 0, 0, 1);
            Run.full().refused(BAD, "copy", 0, 0, no, 0, 1);
            Run.full().refused(BAD, "copy", no, 0, 3, 0, 1);
            Run.full().refused(BAD, "copy", 3, 0, no, 0, -1);
        }
        Run.full().refused(BAD, "copy", 4, 0, 4, 0, 0);
    }

    static void copyOfAMissingSheet() {
        about(30, "BAD: no such SHEET; -11; -13: they are of unlike sorts");
        for (int n : new int[] {0, 1, -1, 41, LOW, HIGH}) {
            Run.full().refused(NOTHING, "copy", 3, 0, 0, 0, n);
            Run.full().refused(NOTHING, "copy", 0, 0, 3, 0, n);
            Run.full().refused(NOTHING, "copy", 3, 0, 3, 0, n);
        }
        Run.full().refused(NOTHING, "copy", 3, -1, 0, -1, 1);
    }

    static void copyToAnotherSort() {
        about(30, "-13: they are of unlike sorts; -12 (also with n below 0)");
        for (int sheet = 0; sheet < 3; sheet++) {
            for (int other = 0; other < 3; other++) {
                if (sheet != other) {
                    for (int n : new int[] {0, 1, -1, 41, LOW, HIGH}) {
                        Run.full().refused(OTHER, "copy", sheet, 0, other, 0, n);
                    }
                    Run.full().refused(OTHER, "copy", sheet, -1, other, 99, 1);
                }
            }
        }
    }

    private static Run two(int sort) {
        return rich().sheet(0, sort, 1, 2, 3, 4, 5).sheet(1, sort, 6, 7, 8);
    }

    static void copyOutside() {
        about(30, "-12 (also with n below 0)");
        int[][] outside = {{0, 0, -1}, {5, 3, -1}, {0, 0, 4}, {0, 1, 3}, {0, 3, 1}, {3, 0, 3}, {5, 0, 1}, {6, 0, 0}, {0, 4, 0},
            {-1, 0, 1}, {0, -1, 1}, {-1, 0, 0}, {0, -1, 0}, {-1, 0, 2}, {0, 0, HIGH}, {0, 0, LOW}, {HIGH, 0, 1}, {0, HIGH, 1},
            {LOW, 0, 1}, {0, LOW, 1}, {HIGH, HIGH, HIGH}, {LOW, LOW, LOW}, {1, 1, HIGH}, {HIGH, 0, 0}, {HIGH, 0, HIGH}};
        for (int sort = 0; sort <= 2; sort++) {
            for (int[] a : outside) {
                two(sort).refused(OUTSIDE, "copy", 0, a[0], 1, a[1], a[2]);
            }
        }
    }

    static void copyToTheVeryEnd() {
        about(30, "n numbers of a SHEET, from item i on, come to another one's item j on (as they were): n.");
        for (int sort = 0; sort <= 2; sort++) {
            Run x = two(sort);
            x.still(0, "copy", 0, 5, 1, 3, 0);
            x.still(0, "copy", 0, 0, 1, 0, 0);
            x.due(3, "copy", 0, 2, 1, 0, 3);
            dueItems(x, 1, sort, 3, 4, 5);
            dueItems(x, 0, sort, 1, 2, 3, 4, 5);
            Run y = two(sort);
            y.due(1, "copy", 0, 4, 1, 2, 1);
            dueItems(y, 1, sort, 6, 7, 5);
            Run z = two(sort);
            z.due(1, "copy", 0, 0, 1, 0, 1);
            dueItems(z, 1, sort, 1, 7, 8);
        }
    }

    static void copyOntoItself() {
        about(30, "come to another one's item j on (as they were)");
        for (int sort = 0; sort <= 2; sort++) {
            Run x = two(sort);
            x.due(4, "copy", 0, 0, 0, 1, 4);
            dueItems(x, 0, sort, 1, 1, 2, 3, 4);
            Run y = two(sort);
            y.due(4, "copy", 0, 1, 0, 0, 4);
            dueItems(y, 0, sort, 2, 3, 4, 5, 5);
            two(sort).still(5, "copy", 0, 0, 0, 0, 5);
            two(sort).still(2, "copy", 0, 2, 0, 2, 2);
            two(sort).refused(OUTSIDE, "copy", 0, 0, 0, 1, 5);
        }
    }

    static void copyOfSheetsWithoutItems() {
        about(30, "-12 (also with n below 0)");
        Run x = new Run().sheet(0, 0).sheet(1, 0);
        x.still(0, "copy", 0, 0, 1, 0, 0);
        x.refused(OUTSIDE, "copy", 0, 0, 1, 0, 1);
        x.refused(OUTSIDE, "copy", 0, 1, 1, 0, 0);
    }

    static void copyOfFortyItems() {
        about(30, "n numbers of a SHEET");
        Run x = whoTakesNothing().sheet(0, 2, new int[40]).sheet(1, 2, new int[40]).sheet(2, 2, new int[12]);
        for (int i = 0; i < 40; i++) {
            x.due(1, "cell", 1, i, 9);
        }
        x.due(40, "copy", 0, 0, 1, 0, 40);
        for (int i = 0; i <= 28; i += 14) {
            x.due(1, "cell", 2, 11, 9);
            x.due(12, "copy", 1, i, 2, 0, 12);
            x.due(NONE, "tells", 2, 0, 0, 0);
        }
        x.refused(OUTSIDE, "copy", 1, 29, 2, 0, 12);
        x.refused(OUTSIDE, "copy", 0, 0, 1, 0, 41);
    }

    // ---- promise 31

    static void gleanersOfNoSheetNoSortNoNumber() {
        about(31, "BAD: no such SHEET, sort, n; -13; -11; -12: what stood ahead came.");
        for (int no : new int[] {-1, 4, LOW, HIGH}) {
            Run.full().refused(BAD, "gleaners", no, 0, 0, 1);
        }
        for (int no : new int[] {-2, -1, 3, LOW, HIGH}) {
            Run.full().refused(BAD, "gleaners", 0, no, 0, 1);
            Run.full().refused(BAD, "gleaners", 3, no, 0, 1);
        }
        for (int no : new int[] {-1, 6, LOW, HIGH}) {
            Run.full().refused(BAD, "gleaners", 0, 0, 0, no);
            Run.full().refused(BAD, "gleaners", 0, 1, 0, no);
            Run.full().refused(BAD, "gleaners", 3, 0, 0, no);
        }
    }

    static void gleanersOfAnotherSort() {
        about(31, "-13 a thing of another sort or KIND");
        for (int sheet = 0; sheet < 3; sheet++) {
            for (int sort = 0; sort < 3; sort++) {
                if (sheet != sort) {
                    for (int n = 0; n <= 5; n++) {
                        Run.full().refused(OTHER, "gleaners", sheet, sort, 0, n);
                    }
                    Run.full().refused(OTHER, "gleaners", sheet, sort, 99, 1);
                    Run.full().refused(OTHER, "gleaners", sheet, sort, -1, 1);
                }
            }
        }
    }

    static void gleanersOfAMissingSheet() {
        about(31, "-13; -11; -12: what stood ahead came");
        for (int sort = 0; sort < 3; sort++) {
            for (int n = 0; n <= 5; n++) {
                Run.full().refused(NOTHING, "gleaners", 3, sort, 0, n);
            }
            Run.full().refused(NOTHING, "gleaners", 3, sort, -1, 1);
        }
    }

    static void gleanersZeroToFive() {
        about(31, "n of them (0 .. 5): how many came (others are left out)");
        for (int sort = 0; sort < 3; sort++) {
            for (int n = 0; n <= 5; n++) {
                Run x = new Run().sheet(2, sort, 0, 9, 1, 8, 2, 7, 3, 6, 4, 5, 5, 4);
                x.due(n, "gleaners", 2, sort, 0, n);
                x.due(n, "count", 0);
                for (int one = 0; one < n; one++) {
                    x.due(one, "told", one, 3);
                    x.due(9 - one, "told", one, 1);
                    x.due(0, "told", one, 2);
                }
            }
        }
    }

    static void noneAreAskedNowhere() {
        about(31, "n of them (0 .. 5)");
        for (int from : new int[] {0, 4, 5, 40, -1, LOW, HIGH}) {
            Run.full().still(0, "gleaners", 0, 0, from, 0);
        }
    }

    static void gleanersFromAnItemOn() {
        about(31, "from one on, two by two (as of gleaner())");
        Run x = new Run().sheet(0, 0, 1, 2, 3, 4, 5);
        x.due(2, "gleaners", 0, 0, 1, 2);
        x.due(2, "told", 0, 3);
        x.due(3, "told", 0, 1);
        x.due(4, "told", 1, 3);
        x.due(5, "told", 1, 1);
        x.due(1, "gleaners", 0, 0, 3, 1);
        x.due(4, "told", 2, 3);
        x.due(5, "told", 2, 1);
    }

    static void whoIsNoneSuchIsLeftOut() {
        about(31, "how many came (others are left out)");
        int[][] none = {{-1, 0}, {6, 0}, {0, -1}, {0, 10}, {6, 10}, {-128, 127}};
        for (int sort = 0; sort < 3; sort++) {
            for (int[] pair : none) {
                Run x = new Run().sheet(0, sort, 0, 1, pair[0], pair[1], 5, 9);
                x.due(2, "gleaners", 0, sort, 0, 3);
                x.due(1, "told", 0, 1);
                x.due(9, "told", 1, 1);
                x.due(2, "count", 0);
                x.still(0, "gleaners", 0, sort, 2, 1);
            }
        }
        Run y = new Run().sheet(0, 2, LOW, HIGH, 256, 0, 0, 256, 65536, 65536);
        y.still(0, "gleaners", 0, 2, 0, 4);
    }

    static void whoHasNoRoomIsLeftOut() {
        about(31, "how many came (others are left out)");
        Run x = new Run().one(0, 0, 0).one(0, 0, 0).one(0, 0, 0);
        x.sheet(0, 0, 1, 1, 6, 6, 2, 2, 3, 3, 4, 4);
        x.due(2, "gleaners", 0, 0, 0, 5);
        x.due(1, "told", 3, 3);
        x.due(2, "told", 4, 3);
        x.still(0, "gleaners", 0, 0, 0, 5);
        x.refused(OUTSIDE, "gleaners", 0, 0, 2, 5);
    }

    static void gleanersOutside() {
        about(31, "-12: what stood ahead came");
        for (int from : new int[] {-1, -2, 3, 4, 5, 40, LOW, HIGH, HIGH - 1}) {
            for (int n = 1; n <= 5; n++) {
                Run.full().refused(OUTSIDE, "gleaners", 0, 0, from, n);
            }
        }
        new Run().sheet(0, 1).refused(OUTSIDE, "gleaners", 0, 1, 0, 1);
        new Run().sheet(0, 1, 3).refused(OUTSIDE, "gleaners", 0, 1, 0, 1);
    }

    static void whatStoodAheadCame() {
        about(31, "-12: what stood ahead came");
        for (int n = 3; n <= 5; n++) {
            Run x = new Run().sheet(1, 1, 5, 9, 4, 8, 3);
            x.due(OUTSIDE, "gleaners", 1, 1, 0, n);
            x.due(2, "count", 0);
            x.due(5, "told", 0, 3);
            x.due(8, "told", 1, 1);
        }
        Run y = new Run().sheet(1, 1, 9, 3, 4, 2, 7);
        y.due(OUTSIDE, "gleaners", 1, 1, 1, 3);
        y.due(2, "count", 0);
        y.due(3, "told", 0, 3);
        y.due(4, "told", 0, 1);
        y.due(2, "told", 1, 3);
        y.due(7, "told", 1, 1);
        Run z = new Run().sheet(1, 0, new int[40]);
        z.due(OUTSIDE, "gleaners", 1, 0, 38, 2);
        z.due(1, "count", 0);
        z.due(OUTSIDE, "gleaners", 1, 0, 39, 1);
        z.due(1, "count", 0);
    }

    // ---- promise 32

    static void takenForNoKind() {
        about(32, "BAD: k; -11: no such GLEANER; -13.");
        for (int k : new int[] {-1, 6, LOW, HIGH}) {
            for (int one : new int[] {0, 2, 3, -1, 5, LOW, HIGH}) {
                Run.full().refused(BAD, "taken", one, k);
            }
        }
    }

    static void takenOfNobody() {
        about(32, "-11: no such GLEANER");
        for (int k = 0; k <= 5; k++) {
            new Run().refused(NOTHING, "taken", 0, k);
            for (int one : new int[] {-1, 3, 4, 5, LOW, HIGH}) {
                Run.full().refused(NOTHING, "taken", one, k);
            }
        }
    }

    static void takenForOneUnderWhomOneIs() {
        about(32, "A GLEANER taken for one of KIND k (0 .. 5), or one under that one (also by others between): the NUMBER.");
        int[][] under = {{0}, {0, 1}, {0, 2}, {0, 1, 3}, {0, 2, 4}, {0, 5}};
        for (int kind = 0; kind <= 5; kind++) {
            for (int number = 0; number <= 9; number += 9) {
                Run x = new Run().one(0, 5, 0).one(kind, number, 0);
                for (int k = 0; k <= 5; k++) {
                    long due = OTHER;
                    for (int u : under[kind]) {
                        due = u == k ? number : due;
                    }
                    x.still(due, "taken", 1, k);
                }
            }
        }
    }
}
