/** Every promise of the document by hand: ordinary inputs, the edges that it names, and wrong inputs. */
public final class PromisesTest {
    private static final int NONE = -1, BAD = -2, STATE = -3, FULL = -4;
    private static final long NO = -4611686018427387904L;
    private static final int LOW = Integer.MIN_VALUE, HIGH = Integer.MAX_VALUE;
    private static int asked = 0;
    private static int wrong = 0;

    private static void due(String what, long got, long want) {
        asked++;
        if (got != want) {
            wrong++;
            System.out.println("PromisesTest: " + what + " answered " + got + ", due is " + want);
        }
    }

    /** Feeds a text: what text() answers. */
    private static int text(GleanersForGaps x, String letters) {
        for (int i = 0; i < letters.length(); i++) {
            due("feed of " + letters, x.feed(letters.charAt(i)), i + 1);
        }
        return x.text();
    }

    private static GleanersForGaps ruled(String letters) {
        GleanersForGaps x = new GleanersForGaps();
        due("text " + letters, text(x, letters), 1);
        due("force of " + letters, x.force(1), 0);
        return x;
    }

    /** A row laid as it looks: # a stalk, . a gap. */
    private static int lay(GleanersForGaps x, int row, String places) {
        int stalks = 0;
        for (int k = 0; k < places.length(); k++) {
            stalks |= places.charAt(k) == '#' ? 1 << k : 0;
        }
        return x.lay(row, places.length(), stalks);
    }

    private static void dueRow(String what, GleanersForGaps x, int row, String places) {
        StringBuilder got = new StringBuilder();
        for (int k = 0; k < x.told(row, 5); k++) {
            got.append((x.told(row, 6) >> k & 1) == 1 ? '#' : '.');
        }
        asked++;
        if (!got.toString().equals(places)) {
            wrong++;
            System.out.println("PromisesTest: " + what + ": row " + row + " is " + got + ", due is " + places);
        }
    }

    private static void sheetOf(GleanersForGaps x, int sheet, int sort, int... items) {
        due("sheet", x.sheet(sheet, sort, items.length), 1);
        for (int i = 0; i < items.length; i++) {
            due("cell", x.cell(sheet, i, items[i]), 1);
        }
    }

    public static void main(String[] args) {
        newObject();
        laying();
        setting();
        gleanersCome();
        telling();
        runs();
        asking();
        feeding();
        texts();
        faults();
        worths();
        forcing();
        gleaning();
        oldOnes();
        going();
        nightsPass();
        trying();
        nightsInThought();
        firstMost();
        bestOfRow();
        rowsFor();
        longestRun();
        closeness();
        toldOnSheets();
        toldByWhat();
        filming();
        drawing();
        chances();
        images();
        counting();
        sheets();
        cells();
        copies();
        gleanersOfSheets();
        takenFor();
        System.out.println("PromisesTest: " + asked + " answers, " + wrong + " not as due");
        if (wrong != 0) {
            System.exit(1);
        }
    }

    // ---- promise 1

    private static void newObject() {
        GleanersForGaps x = new GleanersForGaps();
        int[] counts = {0, 0, 0, 1, 0, 0};
        for (int what = 0; what < counts.length; what++) {
            due("count of a new object", x.count(what), counts[what]);
        }
        for (int row = 0; row < 4; row++) {
            due("length at first", x.told(row, 5), 0);
            due("sheet at first", x.cell(row, 0, 0), -11);
        }
        due("gleaner at first", x.told(0, 1), BAD);
        due("image at first", x.back(), STATE);
        due("orders of nobody", x.go(0, 0), 0);
        due("NONE", GleanersForGaps.NONE, NONE);
        due("BAD", GleanersForGaps.BAD, BAD);
        due("STATE", GleanersForGaps.STATE, STATE);
        due("FULL", GleanersForGaps.FULL, FULL);
        due("NO", GleanersForGaps.NO, NO);
    }

    // ---- promise 2

    private static void laying() {
        GleanersForGaps x = new GleanersForGaps();
        due("lay", x.lay(0, 5, 0b01001), 3);
        dueRow("lay", x, 0, "#..#.");
        due("lay all stalks", x.lay(3, 24, (1 << 24) - 1), 0);
        due("lay all gaps", x.lay(1, 24, 0), 24);
        int[][] bad = {{-1, 1, 0}, {4, 1, 0}, {LOW, 1, 0}, {0, -1, 0}, {0, 25, 0}, {0, HIGH, 0}, {0, 2, 4}, {0, 2, -1},
            {0, 0, 1}, {0, 24, 1 << 24}, {0, 24, LOW}};
        for (int[] a : bad) {
            due("lay", x.lay(a[0], a[1], a[2]), BAD);
        }
        dueRow("refused lays", x, 0, "#..#.");
        due("lay anew", x.lay(0, 2, 3), 0);
        dueRow("lay anew", x, 0, "##");
        due("lay nothing", x.lay(0, 0, 0), 0);
        dueRow("lay nothing", x, 0, "");
    }

    // ---- promise 3

    private static void setting() {
        GleanersForGaps x = new GleanersForGaps();
        due("set night", x.set(0, -77, 999), 0);
        due("set night", x.set(0, HIGH, 5), 999);
        due("set number of nobody", x.set(1, 0, 1), BAD);
        x.gleaner(0, 4);
        due("set number", x.set(1, 0, 9), 4);
        due("set number", x.set(1, 0, 0), 9);
        due("set apron", x.set(2, 0, 999), 0);
        due("set apron", x.set(2, 0, 3), 999);
        int[][] bad = {{-1, 0, 0}, {3, 0, 0}, {0, 0, -1}, {0, 0, 1000}, {1, 0, -1}, {1, 0, 10}, {2, 0, -1}, {2, 0, 1000},
            {1, 1, 0}, {1, -1, 0}, {2, 1, 0}, {2, LOW, 0}, {LOW, 0, 0}};
        for (int[] a : bad) {
            due("set", x.set(a[0], a[1], a[2]), BAD);
        }
        due("night behind", x.told(0, 0), 5);
        due("number behind", x.told(0, 1), 0);
        due("apron behind", x.told(0, 2), 3);
    }

    // ---- promise 4

    private static void gleanersCome() {
        GleanersForGaps x = new GleanersForGaps();
        for (int one = 0; one < 5; one++) {
            due("gleaner of a bad kind", x.gleaner(one % 2 == 0 ? 6 : -1, 0), BAD);
            due("gleaner of a bad number", x.gleaner(0, one % 2 == 0 ? 10 : -1), BAD);
            due("gleaner", x.gleaner(5 - one, one * 2), one);
            due("kind", x.told(one, 3), 5 - one);
            due("number", x.told(one, 1), one * 2);
            due("apron", x.told(one, 2), 0);
        }
        due("a sixth", x.gleaner(0, 0), FULL);
        due("a bad sixth", x.gleaner(6, 0), BAD);
        due("how many", x.count(0), 5);
    }

    // ---- promise 5

    private static void telling() {
        GleanersForGaps x = ruled("takes gap;keeps 50+number;shakes gap+row+night;");
        x.gleaner(3, 6);
        x.set(2, 0, 50);
        int[] ofOne = {0, 6, 50, 3, 28 - 6};
        for (int what = 0; what < ofOne.length; what++) {
            due("told of one " + what, x.told(0, what), ofOne[what]);
        }
        lay(x, 1, "#...#..#..");
        int[] ofRow = {10, 145, 7, 3, 3, 8};
        for (int i = 0; i < ofRow.length; i++) {
            due("told of a row " + (i + 5), x.told(1, i + 5), ofRow[i]);
        }
        x.set(0, 0, 5);
        due("night of nobody", x.told(-9, 0), 5);
        due("shaken, bounded", x.told(1, 10), 9);
        lay(x, 0, "####");
        due("no runs", x.told(0, 8), 0);
        due("no greatest size", x.told(0, 9), 0);
        due("shaken", x.told(0, 10), 5);
        lay(x, 0, "........................");
        due("shaken without room", x.told(0, 10), 9);
        int[][] bad = {{0, -1}, {0, 11}, {1, 1}, {-1, 2}, {5, 3}, {HIGH, 4}, {4, 5}, {-1, 6}, {4, 7}, {4, 8}, {LOW, 9}, {4, 10}};
        for (int[] a : bad) {
            due("told", x.told(a[0], a[1]), BAD);
        }
        int[] kept = {45, 45, 90, 42, 45, 0};
        for (int kind = 0; kind < 6; kind++) {
            GleanersForGaps y = new GleanersForGaps();
            y.gleaner(kind, 3);
            y.set(2, 0, 91);
            due("keeps of kind " + kind, y.told(0, 4), kind == 2 ? 91 : kept[kind]);
            y.set(2, 0, 4);
            due("keeps of little", y.told(0, 4), new int[] {2, 2, 4, 0, 2, 0}[kind]);
        }
    }

    // ---- promise 6

    private static void runs() {
        GleanersForGaps x = new GleanersForGaps();
        lay(x, 2, "..#.##...");
        due("run", x.run(2, 0), 2);
        due("run", x.run(2, 1), 1);
        due("run", x.run(2, 2), 3);
        due("run", x.run(2, 3), BAD);
        due("run", x.run(2, -1), BAD);
        due("run", x.run(0, 0), BAD);
        due("run", x.run(4, 0), BAD);
        due("run", x.run(-1, 0), BAD);
        due("run", x.run(LOW, HIGH), BAD);
        lay(x, 1, ".#.#.#.#.#.#.#.#.#.#.#.#");
        due("the last of twelve", x.run(1, 11), 1);
        due("behind twelve", x.run(1, 12), BAD);
    }

    // ---- promise 7

    private static int asks(String text, int kind, int number, int apron, int g) {
        GleanersForGaps x = ruled(text);
        x.gleaner(kind, number);
        x.set(2, 0, apron);
        return x.asks(0, g);
    }

    private static void asking() {
        String three = "takes 3;keeps 0;shakes 0;";
        String all = "takes 9999;keeps 0;shakes 0;";
        String less = "takes 0-5;keeps 0;shakes 0;";
        due("gleaner", asks(three, 0, 0, 0, 5), 3);
        due("gleaner", asks(three, 0, 0, 0, 2), 2);
        due("gleaner", asks(less, 0, 0, 0, 2), 0);
        due("gleaner", asks(all, 0, 0, 0, 24), 24);
        due("widow, odd", asks(three, 1, 0, 0, 5), 4);
        due("widow, even", asks(three, 1, 0, 0, 6), 3);
        due("widow, bound", asks(three, 1, 0, 0, 3), 3);
        due("widow, from below", asks(less, 1, 0, 0, 3), 1);
        due("rich", asks(less, 2, 0, 0, 24), 24);
        due("lark, 1", asks(three, 3, 0, 0, 1), 0);
        due("lark, odd", asks(three, 3, 0, 0, 7), 4);
        due("lark, even", asks(three, 3, 0, 0, 8), 3);
        due("old, puts", asks(three, 4, 2, 2, 8), -2);
        due("old, puts without room", asks(three, 4, 9, 999, 24), -9);
        due("old, as rich", asks(three, 4, 2, 1, 8), 8);
        due("old, number 0", asks(three, 4, 0, 0, 8), 0);
        due("child", asks(three, 5, 0, 0, 8), 1);
        due("child, half of what is told, then the bound", asks(all, 5, 0, 0, 24), 24);
        due("child, half of 99", asks("takes 40;keeps 0;shakes 0;", 5, 0, 0, 22), 20);
        due("names", asks("takes nth*100+row-gap;keeps 0;shakes 0;", 0, 0, 0, 20), 4);
        due("names", asks("takes number+apron+night;keeps 0;shakes 0;", 0, 3, 7, 20), 10);
        GleanersForGaps x = new GleanersForGaps();
        due("nobody", x.asks(0, 1), -100);
        x.gleaner(0, 0);
        due("g", x.asks(0, 1), 1);
        due("g", x.asks(0, 24), 24);
        due("g", x.asks(0, 0), -100);
        due("g", x.asks(0, 25), -100);
        due("g", x.asks(0, LOW), -100);
        due("one", x.asks(1, 1), -100);
        due("one", x.asks(-1, 1), -100);
    }

    // ---- promise 8

    private static void feeding() {
        GleanersForGaps x = new GleanersForGaps();
        due("feed", x.feed(-1), BAD);
        due("feed", x.feed(256), BAD);
        for (int i = 1; i <= 160; i++) {
            due("feed", x.feed(i % 2 == 0 ? 255 : 0), i);
        }
        due("feed", x.feed(0), FULL);
        due("feed", x.feed(256), BAD);
        due("bytes", x.count(4), 160);
        due("text", x.text(), -100);
        due("bytes", x.count(4), 0);
        due("feed", x.feed(32), 1);
    }

    // ---- promise 9

    private static void texts() {
        GleanersForGaps x = new GleanersForGaps();
        String whole = "takes gap;keeps 50;shakes 0;";
        for (int i = 1; i <= 5; i++) {
            due("a fault between", text(x, "takes"), -105);
            due("tape behind a fault", x.count(4), 0);
            due("text", text(x, i % 2 == 0 ? whole : " takes gap ;\nkeeps\n50 ; shakes 0 ; \n"), i);
            due("texts", x.count(3), i + 1);
            due("tape behind a text", x.count(4), 0);
        }
        due("the rule still", x.count(5), 0);
        due("a text too many", text(x, whole), FULL);
        due("the tape stays", x.count(4), whole.length());
        due("FULL ahead of a fault", x.text(), FULL);
        due("texts", x.count(3), 6);
        GleanersForGaps y = new GleanersForGaps();
        due("a longer tape ahead", text(y, "takes gap+12345678"), -100 - 10);
        due("ends too early, in a number", text(y, "takes gap+12"), -100 - 12);
        due("ends too early, in a word", text(y, "takes ga"), -100 - 6);
        due("ends too early, behind a word", text(y, "takes"), -100 - 5);
        due("words and numbers without blanks", text(new GleanersForGaps(), "takes5;keeps0005;shakesgap;"), -100 - 17);
        due("words and numbers without blanks", text(new GleanersForGaps(), "takes5;keeps0005;shakes(gap);"), 1);
    }

    /** The mark @ stands ahead of the byte at which the fault is due; it is not fed. */
    private static void fault(String marked) {
        int place = marked.indexOf('@');
        String letters = marked.substring(0, place) + marked.substring(place + 1);
        due("text " + marked, text(new GleanersForGaps(), letters), -100 - place);
    }

    private static void faults() {
        String[] marked = {
            // nothing, and what ends too early
            "@", "  \n@", "takes@", "takes 1@", "takes 1;@", "takes 1+@", "takes (1 @", "takes 1;keeps 1;shakes 1@",
            // the parts
            "@;", "@keeps 1;", "takes @;", "takes 1 @keeps", "takes 1;@shakes 1;", "takes 1;@takes 1;",
            "takes 1;keeps 2;@keeps 3;", "takes 1;keeps 1;shakes 1;@;", "takes 1;keeps 1;shakes 1; @takes",
            // words, numbers, bytes
            "@take 1;", "@takesgap;", "@ta kes 1;", "@Takes 1;", "takes @gaps;", "takes @gapz;", "takes @zgap;", "takes @ga p;", "takes 1 @andnot 1;",
            "takes @12345;", "takes @00000;", "takes 1234 @5;", "takes 1@A;", "takes @_;", "takes 1 @/ 2;", "takes 1;keeps 1@>",
            "takes 1;keeps 1;shakes @\u00e9;", "takes 1;keeps 1;shakes 1; @\t", "takes 1;keeps 1;shakes 1;@\u0000",
            // expressions
            "takes gap @nth;", "takes @takes;", "takes 1 + @not 1;", "takes 1 @not 1;", "takes 1 and @or 1;",
            "takes 1 < 2 @< 3;", "takes 1=2@=3;", "takes 1 < @not 2;", "takes - @not 1;", "takes @+1;", "takes @*1;",
            "takes 1+@+1;", "takes 1 * @* 1;", "takes 1 or @;", "takes not @;", "takes -@;",
            "takes (1@;", "takes @);", "takes (@);", "takes (1)@);", "takes (1 < 2 @< 3);",
            // how many are open
            "takes (((((@(1))))));", "takes -----@-1;", "takes not not not not not @not 1;", "takes (not (-(@(1))));",
            "takes (not (-(@)1;", "takes 1------@-1;", "takes not(-(-@-1));", "takes ((((-@(1)))));", "takes ((((not @not 1))));",
            "takes (((((1)+1)+(1)+((@(1)))));", "takes 1;keeps (((((1 and @not 1)))));",
        };
        for (String one : marked) {
            fault(one);
        }
        due("five open", text(new GleanersForGaps(), "takes (((((1)))));keeps -----1;shakes not not not not not 1;"), 1);
        due("five open, anew and anew", text(new GleanersForGaps(),
            "takes (((((1))))) + (((((1))))) - -----1 - -----1;keeps not(not(-1)) and not(not(-1));shakes 1;"), 1);
    }

    /** What an expression is worth, told by what a gleaner takes of 24 gaps. */
    private static void worth(String expression, int want) {
        due(expression, asks("takes " + expression + ";keeps 0;shakes 0;", 0, 4, 6, 24), want);
    }

    private static void worths() {
        worth("2+3*4", 14);
        worth("(2+3)*4", 20);
        worth("20-5-3", 12);
        worth("-3+20", 17);
        worth("--3", 3);
        worth("3 - -4", 7);
        worth("5 or 0", 1);
        worth("0 or 0", 0);
        worth("5 and 3", 1);
        worth("5 and 0", 0);
        worth("not 5", 0);
        worth("not 0", 1);
        worth("not not 7", 1);
        worth("not 1 < 0", 1);
        worth("not 0 = 0", 0);
        worth("1 or 1 and 0", 1);
        worth("(1 or 1) and 0", 0);
        worth("0 and 0 or 1", 1);
        worth("1+1<3", 1);
        worth("3<1+1", 0);
        worth("2<2", 0);
        worth("2*3=5+1", 1);
        worth("2=3", 0);
        worth("-1 < 0", 1);
        worth("-1 and 1", 1);
        worth("number*2+apron", 14);
        worth("gap-20", 4);
        worth("night+nth+5", 5);
        worth("9999*9999*9999 < 0", 1);
        worth("9999*9999*43-417*9999-3157", 7);
        worth("9999*9999*4+0 < 0", 0);
        worth("9999*9999*22 < 0", 1);
        worth("0-1", 0);
        worth("9999", 24);
        worth("0012", 12);
        GleanersForGaps x = ruled("takes gap;keeps 0-1;shakes 0-1;");
        x.gleaner(0, 0);
        x.set(2, 0, 999);
        due("keeps below 0", x.told(0, 4), 0);
        due("shakes below 0", x.told(0, 10), 0);
        x = ruled("takes gap;keeps 101;shakes 10;");
        x.gleaner(0, 0);
        x.set(2, 0, 999);
        due("keeps above", x.told(0, 4), 999);
        due("shakes above", x.told(0, 10), 9);
        x = ruled("takes gap;keeps gap+nth+number+night+apron+row;shakes nth+number+apron;");
        x.gleaner(0, 7);
        x.set(2, 0, 30);
        x.set(0, 0, 20);
        due("names of keeps", x.told(0, 4), 17);
        lay(x, 3, "....");
        due("names of shakes", x.told(3, 10), 0);
        lay(x, 2, ".#..#...");
        x.tries(0, 2, 0);
        due("names of keeps, behind gleaning", x.told(0, 4), 17);
        x.tries(0, 2, 0);
        due("names of shakes, behind gleaning", x.told(3, 10), 0);
    }

    // ---- promise 10

    private static void forcing() {
        GleanersForGaps x = new GleanersForGaps();
        due("force", x.force(0), 0);
        due("force", x.force(1), BAD);
        due("force", x.force(-1), BAD);
        x.gleaner(0, 0);
        text(x, "takes 1;keeps 0;shakes 2;");
        due("ahead of force", x.asks(0, 5), 5);
        due("force", x.force(1), 0);
        due("behind force", x.asks(0, 5), 1);
        due("the rule", x.count(5), 1);
        due("force", x.force(2), BAD);
        due("force", x.force(0), 1);
        due("behind force", x.asks(0, 5), 5);
    }

    // ---- promise 11

    private static void gleaning() {
        GleanersForGaps x = ruled("takes nth+1;keeps 0;shakes 0;");
        x.gleaner(0, 0);
        lay(x, 0, "...#...##...");
        due("glean", x.glean(0, 0), 6);
        dueRow("glean", x, 0, "..#.##");
        due("apron", x.told(0, 2), 6);
        due("glean again", x.glean(0, 0), 2);
        dueRow("a run that was taken whole is one no more", x, 0, ".###");
        due("glean", x.glean(1, 0), -100);
        due("glean", x.glean(-1, 0), -100);
        due("glean", x.glean(0, 4), -100);
        due("glean", x.glean(0, -1), -100);
        due("glean nothing", x.glean(0, 3), 0);
        x = ruled("takes row-9;keeps 0;shakes 0;");
        x.gleaner(0, 0);
        lay(x, 1, "....#....#");
        due("length as it is then", x.glean(0, 1), 1);
        dueRow("length as it is then", x, 1, "...#....#");
        x = ruled("takes apron+1;keeps 0;shakes 0;");
        x.gleaner(0, 0);
        lay(x, 1, "....#....#....");
        due("apron as it is then", x.glean(0, 1), 7);
        dueRow("apron as it is then", x, 1, "...#..#");
        x = new GleanersForGaps();
        x.gleaner(2, 0);
        x.set(2, 0, 998);
        lay(x, 0, "......");
        due("taken in full", x.glean(0, 0), 6);
        due("apron, the bound", x.told(0, 2), 999);
    }

    private static void oldOnes() {
        GleanersForGaps x = new GleanersForGaps();
        x.gleaner(4, 3);
        x.set(2, 0, 5);
        lay(x, 0, "#.#..#");
        due("puts, then takes", x.glean(0, 0), -1);
        dueRow("puts, then takes", x, 0, "#....##");
        due("apron", x.told(0, 2), 4);
        x.set(2, 0, 9);
        lay(x, 1, "......................#.");
        due("puts what has room", x.glean(0, 1), 0);
        lay(x, 1, ".....................#.");
        due("puts what has room", x.glean(0, 1), -1);
        dueRow("puts what has room", x, 1, "......................#.");
        due("apron less what was put", x.told(0, 2), 8);
        x.set(1, 0, 9);
        due("as a rich one", x.glean(0, 1), 22 - 9);
        dueRow("takes a run, puts to the next what fits", x, 1, "#..........");
    }

    // ---- promise 12

    private static void going() {
        GleanersForGaps x = ruled("takes number;keeps 0;shakes 0;");
        x.gleaner(0, 1);
        x.gleaner(0, 2);
        x.gleaner(2, 0);
        lay(x, 0, "....#....");
        for (int bad : new int[] {0, 1, 12, 21, 112, 122, 124, 1234, 1230, 12300, 333, -123, LOW, HIGH, 12, 23, 1123}) {
            due("go " + bad, x.go(0, bad), BAD);
        }
        due("go", x.go(4, 123), BAD);
        due("go", x.go(-1, 123), BAD);
        dueRow("refused", x, 0, "....#....");
        due("go", x.go(0, 213), 0);
        int[] aprons = {2, 4, 2};
        for (int one = 0; one < 3; one++) {
            due("apron", x.told(one, 2), aprons[one]);
        }
        dueRow("go", x, 0, "#");
        lay(x, 1, "......#");
        due("go", x.go(1, 321), 0);
        due("apron", x.told(2, 2), 8);
        due("apron", x.told(0, 2), 2);
        x.set(1, 0, 9);
        GleanersForGaps y = ruled("takes 1;keeps 0;shakes 0;");
        lay(y, 0, "...");
        due("nobody goes", y.go(0, 0), 3);
        due("nobody goes", y.go(0, 1), BAD);
        y.gleaner(0, 0);
        due("one goes", y.go(0, 1), 2);
        due("one goes", y.go(0, 0), BAD);
        due("one goes", y.go(0, 2), BAD);
        for (int i = 0; i < 4; i++) {
            y.gleaner(0, 0);
        }
        lay(y, 0, "...#........");
        due("five go", y.go(0, 53142), 3);
        due("five go", y.go(0, 55142), BAD);
        due("five go", y.go(0, 63142), BAD);
        due("five go", y.go(0, 3142), BAD);
    }

    // ---- promise 13

    private static void nightsPass() {
        GleanersForGaps x = ruled("takes gap;keeps 10+night;shakes row+night;");
        for (int kind = 0; kind < 5; kind++) {
            x.gleaner(kind, 2);
            x.set(2, kind, 101);
        }
        x.set(0, 0, 2);
        lay(x, 0, "#.#");
        lay(x, 3, "#......................");
        due("night", x.night(), 1 + 2 + 3 + 4 + 22 + 1);
        dueRow("shaken", x, 0, "#.#..");
        dueRow("shaken", x, 1, "...");
        dueRow("shaken", x, 2, "....");
        dueRow("shaken as far as there is room", x, 3, "#.......................");
        int[] kept = {12, 12, 101, 10, 50};
        for (int one = 0; one < 5; one++) {
            due("kept", x.told(one, 2), kept[one]);
        }
        due("night", x.count(2), 3);
        x.set(0, 0, 998);
        lay(x, 0, "");
        due("the last night", x.night(), 9 + 12 + 13 + 23);
        due("behind the last night", x.night(), STATE);
        due("behind the last night", x.count(2), 999);
        due("behind the last night", x.told(0, 5), 9);
        GleanersForGaps y = new GleanersForGaps();
        y.gleaner(5, 0);
        y.set(2, 0, 999);
        due("night", y.night(), 0);
        due("a child keeps nothing", y.told(0, 2), 0);
    }

    // ---- promise 14

    private static void trying() {
        GleanersForGaps x = ruled("takes 2;keeps 0;shakes 0;");
        x.gleaner(1, 0);
        x.set(2, 0, 10);
        lay(x, 2, "...#....#.......");
        int[] want = {3 + 2 + 3, 6, 18, 4};
        for (int what = 0; what < 4; what++) {
            due("tries " + what, x.tries(0, 2, what), want[what]);
        }
        dueRow("in thought", x, 2, "...#....#.......");
        due("in thought", x.told(0, 2), 10);
        int[][] bad = {{1, 2, 0}, {-1, 2, 0}, {0, 4, 0}, {0, -1, 0}, {0, 2, 4}, {0, 2, -1}, {HIGH, LOW, HIGH}};
        for (int[] a : bad) {
            due("tries", x.tries(a[0], a[1], a[2]), -100);
        }
    }

    // ---- promise 15

    private static void nightsInThought() {
        GleanersForGaps x = ruled("takes 2;keeps 100;shakes night;");
        x.gleaner(0, 0);
        x.gleaner(0, 0);
        lay(x, 1, "......");
        int[] aprons = {0, 2, 4, 5, 7, 9};
        int[] second = {0, 2, 2, 2, 2, 3};
        int[] left = {6, 2, 1, 2, 3, 4};
        for (int n = 0; n < 6; n++) {
            due("apron behind " + n, x.nights(0, 1, n, 0), aprons[n]);
            due("left behind " + n, x.nights(0, 1, n, 1), left[n]);
            due("apron of another", x.nights(1, 1, n, 0), second[n]);
        }
        dueRow("in thought", x, 1, "......");
        due("in thought", x.count(2), 0);
        GleanersForGaps y = ruled("takes 0;keeps 0;shakes night=1009;");
        y.gleaner(0, 0);
        y.set(0, 0, 990);
        due("nights pass 999", y.nights(0, 0, 19, 1), 0);
        due("nights pass 999", y.nights(0, 0, 20, 1), 1);
        int[][] bad = {{1, 0, 1, 0}, {-1, 0, 1, 0}, {0, 4, 1, 0}, {0, -1, 1, 0}, {0, 0, -1, 0}, {0, 0, 21, 0}, {0, 0, 1, 2},
            {0, 0, 1, -1}, {1, 0, 1, 1}};
        for (int[] a : bad) {
            due("nights", y.nights(a[0], a[1], a[2], a[3]), BAD);
        }
    }

    // ---- promise 16

    private static void firstMost() {
        GleanersForGaps x = ruled("takes 2;keeps 0;shakes 0;");
        x.gleaner(0, 0);
        x.gleaner(2, 0);
        x.gleaner(0, 0);
        lay(x, 0, "...");
        due("first", x.first(0, 0, 0), 123);
        due("first", x.first(0, 0, 1), 2);
        due("first", x.first(1, 0, 0), 213);
        due("first", x.first(1, 0, 1), 3);
        due("first", x.first(2, 0, 0), 312);
        due("first", x.first(2, 0, 1), 2);
        due("first of nothing", x.first(2, 1, 0), 123);
        due("first of nothing", x.first(2, 1, 1), 0);
        dueRow("in thought", x, 0, "...");
        due("in thought", x.told(1, 2), 0);
        int[][] bad = {{3, 0, 0}, {-1, 0, 0}, {0, 4, 0}, {0, -1, 0}, {0, 0, 2}, {0, 0, -1}};
        for (int[] a : bad) {
            due("first", x.first(a[0], a[1], a[2]), -1000);
        }
        GleanersForGaps y = new GleanersForGaps();
        due("first of nobody", y.first(0, 0, 0), -1000);
        y.gleaner(4, 2);
        y.set(2, 0, 9);
        lay(y, 0, "..#.");
        due("most is below 0", y.first(0, 0, 1), -4);
        due("most is below 0", y.first(0, 0, 0), 1);
    }

    // ---- promise 17

    private static void bestOfRow() {
        GleanersForGaps x = new GleanersForGaps();
        lay(x, 0, "..#.");
        int[] nobody = {0, 3, NONE, NONE, NONE};
        for (int what = 0; what < 5; what++) {
            due("best for nobody " + what, x.best(0, what), nobody[what]);
            due("best of nothing for nobody " + what, x.best(1, what), new int[] {0, 0, NONE, NONE, 0}[what]);
        }
        x.gleaner(3, 0);
        x.gleaner(4, 1);
        x.set(2, 1, 1);
        lay(x, 0, ".");
        int[] want = {21, 0, 0, 0, 2};
        for (int what = 0; what < 5; what++) {
            due("best: an old one had best go first " + what, x.best(0, what), want[what]);
        }
        dueRow("in thought", x, 0, ".");
        due("in thought", x.told(1, 2), 1);
        x.set(2, 1, 0);
        want = new int[] {12, 0, 1, 1, 1};
        for (int what = 0; what < 5; what++) {
            due("best " + what, x.best(0, what), want[what]);
        }
        GleanersForGaps y = new GleanersForGaps();
        y.gleaner(4, 2);
        y.set(2, 0, 9);
        lay(y, 3, "..#.#");
        due("alone, below 0", y.best(3, 2), 0);
        due("alone, below 0", y.best(3, 3), -4);
        due("least left", y.best(3, 1), 7);
        y = ruled("takes 1;keeps 0;shakes 0;");
        y.gleaner(0, 0);
        y.gleaner(0, 0);
        lay(y, 2, "........................");
        due("bare", y.best(2, 4), 12);
        due("of like ones the first", y.best(2, 2), 0);
        due("of like ones the first", y.best(2, 0), 12);
        y = ruled("takes night<20;keeps 0;shakes 0;");
        y.gleaner(0, 0);
        lay(y, 2, "....................");
        due("bare behind 20", y.best(2, 4), 20);
        lay(y, 2, ".....................");
        due("bare behind 21", y.best(2, 4), NONE);
        lay(y, 2, "##");
        due("bare now", y.best(2, 4), 0);
        int[][] bad = {{4, 0}, {-1, 0}, {0, 5}, {0, -1}, {LOW, HIGH}};
        for (int[] a : bad) {
            due("best", y.best(a[0], a[1]), -1000);
        }
    }

    // ---- promise 18

    private static void rowsFor() {
        GleanersForGaps x = ruled("takes 2;keeps 0;shakes 0;");
        due("row for nobody", x.rowFor(0, 0), -1000);
        x.gleaner(0, 0);
        due("row for, all alike", x.rowFor(0, 0), 0);
        due("row for, all alike", x.rowFor(0, 1), 0);
        lay(x, 1, "........");
        lay(x, 2, "..#.#..");
        lay(x, 3, ".#..#..");
        due("row for", x.rowFor(0, 0), 2);
        due("row for", x.rowFor(0, 1), 5);
        x.gleaner(4, 1);
        x.set(2, 1, 99);
        lay(x, 0, "..#..");
        due("row for, below 0", x.rowFor(1, 0), 1);
        due("row for, below 0", x.rowFor(1, 1), -1);
        due("row for", x.rowFor(2, 0), -1000);
        due("row for", x.rowFor(-1, 0), -1000);
        due("row for", x.rowFor(0, 2), -1000);
        due("row for", x.rowFor(0, -1), -1000);
    }

    // ---- promise 19

    private static void longestRun() {
        GleanersForGaps x = new GleanersForGaps();
        due("longest", x.longest(), NONE);
        lay(x, 0, "##");
        due("longest", x.longest(), NONE);
        lay(x, 3, ".#..#..");
        due("longest", x.longest(), 301);
        lay(x, 1, ".#.#..");
        due("longest", x.longest(), 102);
        lay(x, 2, "...");
        due("longest", x.longest(), 200);
        lay(x, 0, "...");
        due("longest", x.longest(), 0);
    }

    // ---- promise 20

    private static void closeness() {
        GleanersForGaps x = new GleanersForGaps();
        due("close", x.close(0), NO);
        due("close", x.close(1), NO);
        lay(x, 1, "..#.");
        lay(x, 2, "#...");
        due("close", x.close(0), 1);
        due("close", x.close(1), 4);
        due("close", x.close(2), NO);
        due("close", x.close(-1), NO);
        lay(x, 2, "####");
        due("close", x.close(0), 5);
        due("close", x.close(1), 8);
        lay(x, 1, "");
        due("all stalks", x.close(0), 1);
        due("all stalks", x.close(1), 1);
        lay(x, 2, "......");
        due("no stalks", x.close(0), 0);
        due("no stalks", x.close(1), 1);
    }

    // ---- promise 21

    private static void toldOnSheets() {
        GleanersForGaps x = ruled("takes 2;keeps 0;shakes 0;");
        x.gleaner(0, 0);
        x.gleaner(1, 0);
        x.gleaner(2, 0);
        lay(x, 0, "...#.#..");
        lay(x, 1, "...#.");
        lay(x, 3, "..#...#..");
        due("missing", x.tells(0, 0, 0, 0), -11);
        sheetOf(x, 0, 2, 2, 1, 2);
        int[] want = {NONE, 1, 1023, 100, 0, 2, 1, 1};
        for (int what = 0; what < 8; what++) {
            due("tells " + what, x.tells(0, 0, 0, what), want[what]);
        }
        due("otherwise", x.tells(0, 1, 0, 0), 0);
        x.cell(0, 2, 3);
        due("otherwise", x.tells(0, 0, 0, 0), 2);
        x.cell(0, 1, 9);
        due("the first that is otherwise", x.tells(0, 0, 0, 0), 1);
        sheetOf(x, 1, 0, 2);
        due("fewer than there are", x.tells(1, 0, 0, 0), NONE);
        due("rows", x.tells(1, 0, 0, 7), 0b1011);
        sheetOf(x, 1, 1, 3, 1);
        due("kinds", x.tells(1, 0, 0, 1), 0b000110);
        x.set(1, 0, 9);
        due("kinds, an old one as rich", x.tells(1, 0, 0, 1), 0b010110);
        due("texts", x.tells(1, 0, 0, 5), 0b01);
        due("gleaners", x.tells(1, 0, 0, 6), 0b110);
        due("rows of another", x.tells(1, 1, 0, 7), 0b0011);
        due("aprons: none", x.tells(1, 0, 0, 3), 0);
        due("aprons: none, the least", x.tells(1, 0, 0, 4), NONE);
        due("more than there are", x.tells(0, 0, 1, 0), BAD);
        due("more than there are", x.tells(1, 0, 2, 7), BAD);
        int[][] bad = {{4, 0, 0, 0}, {-1, 0, 0, 0}, {0, 3, 0, 0}, {0, -1, 0, 0}, {0, 0, 4, 0}, {0, 0, -1, 0}, {0, 0, 0, 8},
            {0, 0, 0, -1}, {3, 3, 0, 0}, {3, 0, 0, 8}};
        for (int[] a : bad) {
            due("tells", x.tells(a[0], a[1], a[2], a[3]), BAD);
        }
        due("missing", x.tells(3, 0, 2, 0), -11);
        dueRow("nothing changed", x, 0, "...#.#..");
        due("nothing changed", x.told(0, 2), 0);
        due("nothing changed", x.told(0, 3), 0);
        due("nothing changed", x.count(5), 1);
    }

    private static void toldByWhat() {
        GleanersForGaps x = ruled("takes number+(apron<40);keeps 0;shakes 0;");
        x.gleaner(0, 3);
        lay(x, 0, "........#......");
        due("film", x.film(0, 0, 0), 2);
        due("numbers", x.tells(0, 0, 0, 2), 1 << 3);
        due("aprons", x.tells(0, 0, 0, 3), 36);
        due("the least apron", x.tells(0, 0, 0, 4), 0);
        sheetOf(x, 1, 2, 3, 3);
        due("aprons", x.tells(1, 0, 0, 3), 60);
        due("the least apron", x.tells(1, 0, 0, 4), 40);
        sheetOf(x, 1, 2, 4, 3);
        due("aprons", x.tells(1, 0, 0, 3), 4);
        due("the least apron", x.tells(1, 0, 0, 4), 36);
        x.set(1, 0, 2);
        x.gleaner(4, 1);
        sheetOf(x, 2, 0, -1, 255);
        x.set(2, 1, 2);
        due("what is put, in bytes", x.tells(2, 1, 0, 0), NONE);
        due("numbers of an old one", x.tells(2, 1, 0, 2), 0b10);
        due("kinds", x.tells(2, 1, 0, 1), 0b10000);
        sheetOf(x, 2, 1, -1, 255);
        due("what is put, in shorts", x.tells(2, 1, 0, 0), 1);
    }

    // ---- promise 22

    private static void filming() {
        GleanersForGaps x = new GleanersForGaps();
        x.gleaner(4, 3);
        x.set(2, 0, 5);
        lay(x, 0, "#.#..#");
        sheetOf(x, 2, 2, 7, 7, 7, 7, 7);
        due("film", x.film(2, 0, 0), 2);
        due("it has as many as there are", x.cell(2, 2, 0), -12);
        due("film", x.tells(2, 0, 0, 0), NONE);
        sheetOf(x, 1, 0, -3, 2);
        due("the same by hand", x.tells(1, 0, 0, 0), NONE);
        due("of one sort", x.copy(2, 0, 1, 0, 2), 2);
        due("of one sort, which is bytes", x.gleaners(2, 0, 0, 0), 0);
        dueRow("in thought", x, 0, "#.#..#");
        due("in thought", x.told(0, 2), 5);
        due("film of no runs", x.film(3, 0, 1), 0);
        due("film of no runs", x.cell(3, 0, 1), -12);
        int[][] bad = {{4, 0, 0}, {-1, 0, 0}, {0, 1, 0}, {0, -1, 0}, {0, 0, 4}, {0, 0, -1}};
        for (int[] a : bad) {
            due("film", x.film(a[0], a[1], a[2]), BAD);
        }
        due("refused", x.cell(0, 0, 0), -11);
        x.lay(1, 23, 0b01010101010101010101010);
        due("film of twelve", x.film(0, 0, 1), 12);
    }

    // ---- promise 23

    private static void drawing() {
        GleanersForGaps x = new GleanersForGaps();
        due("drawn for nobody", x.drawn(1, 0), -100);
        x.gleaner(0, 0);
        x.gleaner(3, 0);
        due("drawn", x.drawn(1, 0), 10);
        for (int seed : new int[] {0, 7, -1, HIGH, LOW, 123456789}) {
            due("drawn of " + seed, x.drawn(seed, 0), Integer.bitCount(gapsOf(seed)));
            int gaps = gapsOf(seed);
            int alone = gaps & ~(gaps << 1) & ~(gaps >> 1);
            due("drawn of " + seed + " by a lark", x.drawn(seed, 1), Integer.bitCount(gaps) - Integer.bitCount(alone));
        }
        due("drawn", x.drawn(1, 2), -100);
        due("drawn", x.drawn(1, -1), -100);
        due("in thought", x.told(0, 5), 0);
        due("in thought", x.told(0, 2), 0);
    }

    private static int gapsOf(int seed) {
        int gaps = 0;
        long q = seed;
        for (int k = 0; k < 24; k++) {
            q = (int) (q * 1103515245L + 12345L);
            gaps |= ((q & 0xffffffffL) >> 9) % 3 == 0 ? 1 << k : 0;
        }
        return gaps;
    }

    // ---- promise 24

    private static void chances() {
        GleanersForGaps x = new GleanersForGaps();
        due("chance for nobody", x.chance(1, 1, 0, 0, 0), NO);
        x.gleaner(0, 0);
        for (int seed : new int[] {1, -10, HIGH - 4}) {
            for (int k = 0; k <= 24; k += 4) {
                int many = 0;
                for (int i = 0; i < 20; i++) {
                    many += Integer.bitCount(gapsOf(seed + i)) >= k ? 1 : 0;
                }
                int divisor = many == 0 ? 20 : many % 20 == 0 ? 20 : many % 10 == 0 ? 10 : many % 5 == 0 ? 5
                    : many % 4 == 0 ? 4 : many % 2 == 0 ? 2 : 1;
                due("chance", x.chance(seed, 20, 0, k, 0), many / divisor);
                due("chance", x.chance(seed, 20, 0, k, 1), 20 / divisor);
            }
        }
        due("one seed", x.chance(1, 1, 0, 10, 0), 1);
        due("one seed", x.chance(1, 1, 0, 11, 0), 0);
        due("one seed", x.chance(1, 1, 0, 11, 1), 1);
        int[][] bad = {{0, 0, 0, 0}, {21, 0, 0, 0}, {-1, 0, 0, 0}, {1, 1, 0, 0}, {1, -1, 0, 0}, {1, 0, -1, 0}, {1, 0, 25, 0},
            {1, 0, 0, 2}, {1, 0, 0, -1}};
        for (int[] a : bad) {
            due("chance", x.chance(1, a[0], a[1], a[2], a[3]), NO);
        }
    }

    // ---- promises 25, 26

    private static void images() {
        GleanersForGaps x = ruled("takes 1;keeps 0;shakes 0;");
        due("back", x.back(), STATE);
        due("image", x.image(), 0);
        x.gleaner(1, 4);
        x.set(2, 0, 8);
        x.set(0, 0, 3);
        lay(x, 0, "..#");
        due("image", x.image(), 1);
        x.gleaner(2, 5);
        x.set(1, 0, 1);
        x.set(2, 0, 2);
        x.set(0, 0, 9);
        x.force(0);
        lay(x, 0, "#");
        lay(x, 1, "...");
        sheetOf(x, 0, 0, 5);
        x.feed(7);
        text(new GleanersForGaps(), "");
        due("back", x.back(), 1);
        due("gleaners", x.count(0), 1);
        due("the one that came since", x.told(1, 1), BAD);
        due("number", x.told(0, 1), 4);
        due("apron", x.told(0, 2), 8);
        due("night", x.count(2), 3);
        due("the rule", x.count(5), 1);
        due("texts stay", x.count(3), 2);
        due("the tape stays", x.count(4), 1);
        due("sheets stay", x.cell(0, 0, 1), 1);
        dueRow("row", x, 0, "..#");
        dueRow("row", x, 1, "");
        due("another comes", x.gleaner(5, 9), 1);
        due("its kind", x.told(1, 3), 5);
        due("its apron", x.told(1, 2), 0);
        x.glean(0, 0);
        due("the image stays", x.back(), 1);
        dueRow("the image stays", x, 0, "..#");
        due("apron", x.told(0, 2), 8);
    }

    // ---- promise 27

    private static void counting() {
        GleanersForGaps x = new GleanersForGaps();
        x.gleaner(0, 0);
        x.gleaner(0, 0);
        lay(x, 0, "..#");
        lay(x, 3, "#.#.");
        x.set(0, 0, 77);
        text(x, "takes 1;keeps 0;shakes 0;");
        x.force(1);
        x.feed(1);
        x.feed(1);
        x.feed(1);
        int[] want = {2, 4, 77, 2, 3, 1};
        for (int what = 0; what < 6; what++) {
            due("count " + what, x.count(what), want[what]);
        }
        due("count", x.count(6), BAD);
        due("count", x.count(-1), BAD);
    }

    // ---- promise 28

    private static void sheets() {
        GleanersForGaps x = new GleanersForGaps();
        due("sheet", x.sheet(0, 2, 40), 1);
        due("its last", x.cell(0, 39, 1), 1);
        due("behind its last", x.cell(0, 40, 1), -12);
        due("n", x.sheet(0, 2, 41), BAD);
        due("n", x.sheet(0, 2, HIGH), BAD);
        due("n", x.sheet(0, 2, -1), -14);
        due("n", x.sheet(0, 2, LOW), -14);
        due("sort", x.sheet(0, 3, 1), BAD);
        due("sort", x.sheet(0, -2, 1), BAD);
        due("sort ahead of n", x.sheet(0, 3, -1), BAD);
        due("sheet", x.sheet(4, 0, 1), BAD);
        due("sheet", x.sheet(-1, -1, 1), BAD);
        due("refused", x.cell(0, 39, 1), 1);
        due("missing", x.sheet(0, -1, HIGH), 1);
        due("missing", x.cell(0, 0, 1), -11);
        due("missing again", x.sheet(0, -1, LOW), 1);
        x.gleaner(2, 0);
        lay(x, 0, ".#.");
        sheetOf(x, 1, 0, 1, 1);
        due("told", x.tells(1, 0, 0, 0), NONE);
        due("anew", x.sheet(1, 0, 2), 1);
        due("all 0", x.tells(1, 0, 0, 0), 0);
        due("of none", x.sheet(1, 1, 0), 1);
        due("of none", x.cell(1, 0, 0), -12);
    }

    // ---- promise 29

    private static void cells() {
        GleanersForGaps x = new GleanersForGaps();
        due("no such", x.cell(4, 0, 0), BAD);
        due("no such", x.cell(-1, 0, 0), BAD);
        due("missing", x.cell(0, HIGH, 0), -11);
        x.gleaner(2, 0);
        lay(x, 0, ".....");
        int[][] fits = {{0, 256 + 5, NONE}, {0, 5 - 256, NONE}, {0, 6, 0}, {1, 65536 + 5, NONE}, {1, 256 + 5, 0}, {2, 5, NONE},
            {2, 65536 + 5, 0}};
        for (int[] a : fits) {
            sheetOf(x, 0, a[0], a[1]);
            due("cell of sort " + a[0] + ": " + a[1], x.tells(0, 0, 0, 0), a[2]);
        }
        due("outside", x.cell(0, 1, 0), -12);
        due("outside", x.cell(0, -1, 0), -12);
        due("outside", x.cell(0, LOW, 0), -12);
    }

    // ---- promise 30

    private static void copies() {
        GleanersForGaps x = new GleanersForGaps();
        x.gleaner(2, 0);
        due("no such", x.copy(4, 0, 0, 0, 0), BAD);
        due("no such", x.copy(0, 0, -1, 0, 0), BAD);
        due("missing", x.copy(0, 0, 1, 0, 0), -11);
        sheetOf(x, 0, 2, 1, 2, 3, 4, 5);
        due("missing", x.copy(0, 0, 1, 0, 0), -11);
        due("missing", x.copy(1, 0, 0, 0, -1), -11);
        x.sheet(1, 1, 5);
        due("unlike", x.copy(0, 0, 1, 0, -1), -13);
        sheetOf(x, 1, 2, 6, 7, 8);
        int[][] outside = {{0, 0, -1}, {0, 0, 4}, {3, 0, 3}, {-1, 0, 1}, {0, -1, 1}, {6, 0, 0}, {0, 4, 0}, {0, 1, 3}, {HIGH, 0, 1},
            {0, HIGH, 1}, {1, 1, HIGH}, {0, 0, LOW}, {LOW, LOW, LOW}, {-1, 0, 0}};
        for (int[] a : outside) {
            due("outside", x.copy(0, a[0], 1, a[1], a[2]), -12);
        }
        dueItems(x, 1, 6, 7, 8);
        due("none at the end", x.copy(0, 5, 1, 3, 0), 0);
        due("copy", x.copy(0, 2, 1, 1, 2), 2);
        dueItems(x, 1, 6, 3, 4);
        dueItems(x, 0, 1, 2, 3, 4, 5);
        due("onto itself, up", x.copy(0, 0, 0, 1, 4), 4);
        dueItems(x, 0, 1, 1, 2, 3, 4);
        due("onto itself, down", x.copy(0, 2, 0, 0, 3), 3);
        dueItems(x, 0, 2, 3, 4, 3, 4);
    }

    /** A rich one (gleaner 0) takes just the sizes of the runs, so it tells whether a sheet has these items. */
    private static void dueItems(GleanersForGaps x, int sheet, int... items) {
        StringBuilder row = new StringBuilder();
        for (int item : items) {
            row.append(row.length() == 0 ? "" : "#").append(".".repeat(item));
        }
        lay(x, 0, row.toString());
        due("items", x.tells(sheet, 0, 0, 0), NONE);
        due("how many items", x.cell(sheet, items.length, 0), -12);
    }

    // ---- promise 31

    private static void gleanersOfSheets() {
        GleanersForGaps x = new GleanersForGaps();
        due("missing", x.gleaners(0, 0, 0, 0), -11);
        sheetOf(x, 0, 1, 3, 7, 6, 0, 1, 10, 5, 9, 2);
        due("no such", x.gleaners(4, 1, 0, 1), BAD);
        due("no such", x.gleaners(-1, 1, 0, 1), BAD);
        due("sort", x.gleaners(0, 3, 0, 1), BAD);
        due("sort", x.gleaners(0, -1, 0, 1), BAD);
        due("n", x.gleaners(0, 1, 0, 6), BAD);
        due("n", x.gleaners(0, 1, 0, -1), BAD);
        due("unlike", x.gleaners(0, 0, 0, 1), -13);
        due("unlike", x.gleaners(0, 2, 99, 1), -13);
        due("nothing came", x.count(0), 0);
        due("gleaners", x.gleaners(0, 1, 0, 4), 2);
        due("the first", x.told(0, 3) * 10 + x.told(0, 1), 37);
        due("the second", x.told(1, 3) * 10 + x.told(1, 1), 59);
        due("none", x.gleaners(0, 1, 99, 0), 0);
        due("outside", x.gleaners(0, 1, -1, 1), -12);
        due("outside", x.gleaners(0, 1, HIGH, 5), -12);
        due("outside", x.gleaners(0, 1, 9, 1), -12);
        due("half outside", x.gleaners(0, 1, 8, 1), -12);
        due("nothing came", x.count(0), 2);
        due("from an item on, what stood ahead came", x.gleaners(0, 1, 6, 2), -12);
        due("what stood ahead came", x.count(0), 3);
        due("what came", x.told(2, 3) * 10 + x.told(2, 1), 59);
        sheetOf(x, 1, 2, 0, 0, 0, 1, 0, 2, 0, 3, 0, 4);
        due("as many as have room", x.gleaners(1, 2, 2, 4), 2);
        due("the last", x.told(4, 1), 2);
        due("full", x.gleaners(1, 2, 0, 5), 0);
        GleanersForGaps y = new GleanersForGaps();
        sheetOf(y, 3, 0, 1, 2, 3, 4);
        due("from an item, not from a pair", y.gleaners(3, 0, 1, 1), 1);
        due("from an item, not from a pair", y.told(0, 3) * 10 + y.told(0, 1), 23);
    }

    // ---- promise 32

    private static void takenFor() {
        String[] under = {"0", "10", "20", "310", "420", "50"};
        for (int kind = 0; kind < 6; kind++) {
            GleanersForGaps x = new GleanersForGaps();
            due("nobody", x.taken(0, 0), -11);
            x.gleaner(kind, 7);
            for (int k = 0; k < 6; k++) {
                due("kind " + kind + " for " + k, x.taken(0, k), under[kind].indexOf('0' + k) >= 0 ? 7 : -13);
            }
            due("k", x.taken(0, 6), BAD);
            due("k", x.taken(0, -1), BAD);
            due("k ahead of nobody", x.taken(1, 6), BAD);
            due("nobody", x.taken(1, 0), -11);
            due("nobody", x.taken(-1, 5), -11);
        }
    }
}
