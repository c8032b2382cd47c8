/** Promises 8 to 10, texts: each sentence of the document that names a boundary case, by a test of its own. */
public final class TextsBoundsTest extends Bounds {
    private static final String PLAIN = "takes 1;keeps 2;shakes 3;";

    public static void main(String[] args) throws ReflectiveOperationException {
        Checks.runAll(TextsBoundsTest.class, 8, 10);
    }

    /** The mark @ stands ahead of the byte at which the fault is due; it is not fed. */
    private static void dueFault(String marked) {
        int place = marked.indexOf('@');
        new Run().dueText(NO_ANSWER - place, marked.substring(0, place) + marked.substring(place + 1));
    }

    /** Faults in what takes tells, in what keeps tells, in what shakes tells. */
    private static void dueFaultInEach(String marked) {
        dueFault("takes " + marked + ";keeps 2;shakes 3;");
        dueFault("takes 1;keeps " + marked + ";shakes 3;");
        dueFault("takes 1;keeps 2;shakes " + marked + ";");
    }

    private static void dueGood(String letters) {
        Run x = new Run();
        x.dueText(1, letters);
        x.due(0, "count", 4);
        x.due(2, "count", 3);
        x.due(0, "count", 5);
    }

    private static void dueGoodInEach(String expression) {
        dueGood("takes " + expression + ";keeps " + expression + ";shakes " + expression + ";");
    }

    /** What an expression is worth (0 .. 24), by what a gleaner of number 4, with 6 in the apron, takes. */
    private static void dueWorth(long want, String expression) {
        Run x = Run.ruled("takes " + expression + ";keeps 0;shakes 0;").one(0, 4, 6);
        x.due(want, "asks", 0, 24);
    }

    // ---- promise 8

    static void bytesAreZeroTo255() {
        about(8, "A byte (0 .. 255) comes behind THE TAPE: how many it has.");
        Run x = new Run();
        for (int letter = 0; letter < 160; letter++) {
            x.due(letter + 1, "feed", letter);
        }
        Run y = new Run();
        for (int letter = 255; letter >= 160; letter--) {
            y.due(256 - letter, "feed", letter);
        }
        y.due(96, "count", 4);
        for (int letter : new int[] {-1, 256, LOW, HIGH}) {
            Run.full().refused(BAD, "feed", letter);
        }
    }

    private static Run fullTape() {
        Run x = new Run();
        for (int i = 1; i <= 160; i++) {
            x.due(i, "feed", i <= PLAIN.length() ? PLAIN.charAt(i - 1) : ' ');
        }
        return x;
    }

    static void theTapeHas160BytesAtMost() {
        about(8, "THE TAPE (160 bytes at most)");
        Run x = fullTape();
        x.due(160, "count", 4);
        x.refused(FULL, "feed", ' ');
        x.refused(FULL, "feed", 0);
        x.refused(FULL, "feed", 255);
        x.due(FULL, "feed", 'x');
        x.due(1, "text");
        x.due(0, "count", 4);
        x.due(1, "feed", 'x');
    }

    static void aBadByteIsBadAlsoAtAFullTape() {
        about(8, "how many it has. BAD; FULL.");
        fullTape().refused(BAD, "feed", -1);
        fullTape().refused(BAD, "feed", 256);
    }

    // ---- promise 9: the tape, and how many texts there are

    static void aTextOf160Bytes() {
        about(9, "THE TAPE (160 bytes at most)");
        String blanks = " ".repeat(160 - PLAIN.length());
        dueGood(blanks + PLAIN);
        dueGood(PLAIN + blanks);
        String long160 = "takes " + "1+".repeat(66) + "1;keeps 2;shakes 3;";
        Checks.due("its size", (long160 + "   ").length(), 160);
        dueGood(long160 + "   ");
        new Run().dueText(NO_ANSWER - 160, blanks + PLAIN.substring(0, PLAIN.length() - 1) + " ");
        new Run().dueText(NO_ANSWER - 159, blanks + PLAIN.substring(0, PLAIN.length() - 1) + "!");
    }

    static void anEmptyTapeIsNoText() {
        about(9, "(the text's size, if it ends too early)");
        new Run().refused(NO_ANSWER, "text");
        dueFault(" @");
        dueFault("\n \n@");
    }

    static void theTapeIsEmptyBehindATextAndBehindAFault() {
        about(9, "THE TAPE, which is empty then (by a FAULT, too), is a TEXT: its number");
        Run x = new Run();
        x.dueText(1, PLAIN);
        x.due(0, "count", 4);
        x.dueText(NO_ANSWER - 8, PLAIN.substring(0, 9));
        x.due(0, "count", 4);
        x.due(2, "count", 3);
        x.dueText(NO_ANSWER, ";" + PLAIN);
        x.due(0, "count", 4);
        x.dueText(2, PLAIN);
        x.due(3, "count", 3);
    }

    static void aFaultHasNothingOfALongerTapeBefore() {
        about(9, "(the text's size, if it ends too early)");
        Run x = new Run();
        x.dueText(NO_ANSWER - 6, "takes !;keeps 22;shakes 33;");
        x.dueText(NO_ANSWER - 7, "takes 1");
        x.dueText(NO_ANSWER - 6, "takes ga");
        x.dueText(NO_ANSWER - 8, "takes 1;");
        x.dueText(NO_ANSWER - 0, "take");
    }

    private static Run sixTexts() {
        Run x = new Run().one(0, 0, 100);
        for (int text = 1; text <= 5; text++) {
            x.rule(text, "takes " + text + ";keeps " + 10 * text + ";shakes " + text + ";");
        }
        return x;
    }

    static void sixTextsAtMost() {
        about(9, "There are 6 TEXTS at most, TEXT 0 with them.");
        Run x = sixTexts();
        x.due(6, "count", 3);
        x.fed(PLAIN).refused(FULL, "text");
        for (int text = 1; text <= 5; text++) {
            x.due(text == 1 ? 5 : text - 1, "force", text);
            x.due(text, "asks", 0, 9);
            x.due(10 * text, "told", 0, 4);
            x.due(text, "told", 0, 10);
        }
        x.due(5, "force", 0);
        x.due(9, "asks", 0, 9);
    }

    static void fullAheadOfAllFaults() {
        about(9, "FULL (ahead of all): no TEXT more has room (THE TAPE stays).");
        sixTexts().refused(FULL, "text");
        sixTexts().fed("takes ;").refused(FULL, "text");
        Run x = sixTexts().fed("!");
        x.due(FULL, "text");
        x.due(1, "count", 4);
        x.due(2, "feed", '!');
    }

    static void aFaultIsNoText() {
        about(9, "-100 less the place of its FAULT");
        Run x = new Run();
        x.dueText(NO_ANSWER - 24, PLAIN.substring(0, 24));
        x.due(1, "count", 3);
        x.due(0, "count", 5);
        x.due(BAD, "force", 1);
        x.dueText(1, PLAIN);
    }

    static void aFaultLeavesAllOtherTextsAsTheyWere() {
        about(9, "-100 less the place of its FAULT");
        Run x = new Run().one(0, 0, 100).rule(1, PLAIN);
        x.dueText(NO_ANSWER - 23, "takes 7;keeps 7;shakes !;");
        x.due(1, "asks", 0, 9);
        x.due(2, "told", 0, 4);
        x.due(3, "told", 0, 10);
    }

    // ---- promise 9: tokens

    static void wordsAreAToZ() {
        about(9, "WORDS (a .. z)");
        dueFaultInEach("@`");
        dueFaultInEach("@{");
        dueFaultInEach("@A");
        dueFaultInEach("@Z");
        dueFaultInEach("@a");
        dueFaultInEach("@z");
        dueFault("@Takes 1;keeps 2;shakes 3;");
        dueFaultInEach("gap @Gap");
        dueFaultInEach("gap@`");
        dueFaultInEach("gap@{");
        for (String beside : new String[] {"a", "b", "y", "z"}) {
            dueFaultInEach("@gap" + beside);
            dueFaultInEach("@" + beside + "gap");
        }
    }

    static void wordsAreAsLongAsCanBe() {
        about(9, "TOKENS, each as long as can be");
        dueFaultInEach("@gapgap");
        dueFaultInEach("@gaps");
        dueFaultInEach("@ga");
        dueFaultInEach("@gapor");
        dueFaultInEach("1 @orgap");
        dueFaultInEach("@notgap");
        dueFaultInEach("1 @andnot 1");
        dueFault("@takesgap;keeps 2;shakes 3;");
        dueFault("@take 1;keeps 2;shakes 3;");
        dueFault("@takess 1;keeps 2;shakes 3;");
        dueFault("takes 1;@keep 2;shakes 3;");
        dueFault("takes 1;keeps 2;@shake 3;");
        dueFaultInEach("@apro");
        dueFaultInEach("@nights");
        dueFaultInEach("@numbe");
        dueFaultInEach("@ro");
        dueFaultInEach("@rows");
        dueFaultInEach("@nt");
        dueFaultInEach("@nthh");
    }

    static void numbersAreZeroToNine() {
        about(9, "NUMBERS (as many digits as stand there, 4 at most)");
        dueFaultInEach("@/");
        dueFaultInEach("@:");
        dueFaultInEach("1@/");
        dueFaultInEach("1@:");
        dueWorth(0, "0");
        dueWorth(9, "9");
        dueWorth(12, "0012");
        dueWorth(1, "9999=9998+1");
        dueWorth(1, "0000=0");
        dueWorth(1, "1000=10*100");
    }

    static void aNumberOfFiveDigitsIsTooLong() {
        about(9, "a NUMBER that is too long");
        dueFaultInEach("@10000");
        dueFaultInEach("@00000");
        dueFaultInEach("gap+@12345");
        dueFaultInEach("@12345678901234567890");
        dueFaultInEach("1 @23456");
        dueFaultInEach("1234 @5");
        dueFault("takes @" + "9".repeat(154));
        dueFault("takes @4294967297;keeps 2;shakes 3;");
    }

    static void wordsAndNumbersNeedNoBlankBetween() {
        about(9, "TOKENS, each as long as can be");
        dueGood("takes1;keeps2;shakes3;");
        dueGood("takes(gap)or(1)and not 1;keeps-2;shakes3*3;");
        dueGood("takes 1or 2;keeps 1and 2;shakes 1;");
        dueFaultInEach("1@gap");
        dueFaultInEach("gap@1");
    }

    static void signsAreEight() {
        about(9, "SIGNS ( ) ; + - * < = ;");
        for (int letter = 33; letter < 128; letter++) {
            boolean isLetter = letter >= 'a' && letter <= 'z';
            boolean isDigit = letter >= '0' && letter <= '9';
            boolean isSign = "();+-*<=".indexOf(letter) >= 0;
            String text = "takes 1 " + (char) letter + "(2);keeps 2;shakes 3;";
            if (isLetter || isDigit || letter == '(' || letter == ')') {
                new Run().dueText(NO_ANSWER - 8, text);
            } else if (letter == ';') {
                new Run().dueText(NO_ANSWER - 9, text);
            } else {
                new Run().dueText(isSign ? 1 : NO_ANSWER - 8, text);
            }
        }
    }

    static void blanksAre32And10() {
        about(9, "blanks (32, 10) may stand between");
        dueGood(" \n takes \n1\n;\n\nkeeps  2 ;shakes 3 ; \n");
        dueGood(PLAIN);
        for (int letter : new int[] {0, 1, 8, 9, 11, 12, 13, 31, 33, 127, 128, 133, 160, 200, 255}) {
            new Run().dueText(NO_ANSWER, (char) letter + PLAIN);
            new Run().dueText(NO_ANSWER - 5, "takes" + (char) letter + PLAIN.substring(5));
            new Run().dueText(NO_ANSWER - 7, "takes 1" + (char) letter + PLAIN.substring(7));
            new Run().dueText(NO_ANSWER - PLAIN.length(), PLAIN + (char) letter);
        }
    }

    static void aByteThatBeginsNoTokenIsAFaultBehindAnyToken() {
        about(9, "also of a byte that begins none");
        for (String ahead : new String[] {"gap ", "(", "-", "not ", "1+", "1-", "1*", "1<", "1=", "1 or ", "1 and ", "(1)"}) {
            dueFaultInEach(ahead + "@!");
            dueFaultInEach(ahead + "@!1");
            dueFaultInEach(ahead + "@12345");
        }
    }

    static void aByteThatBeginsNoTokenIsAFault() {
        about(9, "also of a byte that begins none");
        for (int letter : new int[] {0, 9, 13, 31, '!', '>', '/', '@' - 1, '[', '`', '{', 127, 128, 255}) {
            new Run().dueText(NO_ANSWER - 6, "takes " + (char) letter + "1;keeps 2;shakes 3;");
        }
    }

    static void blanksPartTokens() {
        about(9, "TOKENS, each as long as can be");
        dueFaultInEach("@ga p");
        dueFaultInEach("1 @2");
        dueFaultInEach("1\n@2");
        dueFault("@ta kes 1;");
        dueFaultInEach("@n ot 1");
    }

    // ---- promise 9: what stands where

    static void theThreePartsInTheirOrder() {
        about(9, "TEXT: takes E ; keeps E ; shakes E ;");
        dueFault("@keeps 1;takes 2;shakes 3;");
        dueFault("takes 1;@shakes 2;keeps 3;");
        dueFault("takes 1;keeps 2;@keeps 3;");
        dueFault("takes 1;@takes 2;");
        dueFault("takes 1;@;keeps 2;shakes 3;");
        dueFault("takes 1 @keeps 2;shakes 3;");
        dueFault("takes 1;keeps 2 @shakes 3;");
        dueFault("takes @;keeps 2;shakes 3;");
        dueFault("takes 1;keeps @;shakes 3;");
        dueFault("takes 1;keeps 2;shakes @;");
        dueFault("@;" + PLAIN);
        dueFault("@1;keeps 2;shakes 3;");
        dueFault("@gap;keeps 2;shakes 3;");
    }

    static void nothingStandsBehindAText() {
        about(9, "TEXT: takes E ; keeps E ; shakes E ;");
        dueFault(PLAIN + "@;");
        dueFault(PLAIN + " @" + PLAIN);
        dueFault(PLAIN + "@1");
        dueFault(PLAIN + "\n@gap");
        dueFault(PLAIN + "@)");
    }

    static void aTextThatEndsTooEarly() {
        about(9, "(the text's size, if it ends too early)");
        String[] tokens = {"takes", " (", "1", " )", ";", "keeps", " not", " 2", " +", " 3", ";", "shakes", " -", " 1", " <", "2"};
        String letters = "";
        for (String token : tokens) {
            letters += token;
            dueFault(letters + "@");
            dueFault(letters + " @");
            dueFault(letters + " \n @");
        }
        dueGood(letters + ";");
    }

    static void keysAreNoNames() {
        about(9, "takes, keeps, shakes, or, and, not are KEYS");
        for (String key : new String[] {"takes", "keeps", "shakes", "or", "and"}) {
            dueFaultInEach("@" + key);
            dueFaultInEach("1+@" + key);
            dueFaultInEach("(@" + key + ")");
        }
        dueFaultInEach("1+@not 1");
        dueFaultInEach("-@not 1");
        dueFaultInEach("1<@not 1");
        dueFaultInEach("1 @not 1");
        dueFaultInEach("1 or @or 1");
        dueFaultInEach("1 and @or 1");
    }

    static void aWordThatIsNeither() {
        about(9, "a WORD that is neither KEY nor NAME");
        for (String word : new String[] {"a", "gapped", "length", "size", "told", "x", "kind", "nor"}) {
            dueFaultInEach("@" + word);
            for (String ahead : new String[] {"gap ", "(", "-", "not ", "1+", "1-", "1*", "1<", "1=", "1 or ", "1 and ", "(1)"}) {
                dueFaultInEach(ahead + "@" + word);
                dueFaultInEach(ahead + "@" + word + " 1");
            }
            dueFault("@" + word + " 1;");
            dueFault("takes 1;@" + word + " 1;");
            dueFault(PLAIN + "@" + word);
        }
    }

    static void oneComparisonAtMost() {
        about(9, "or SUM, perhaps < or = and a SUM");
        dueGoodInEach("1<2");
        dueGoodInEach("1=2");
        dueFaultInEach("1<2@<3");
        dueFaultInEach("1<2@=3");
        dueFaultInEach("1=2@<3");
        dueFaultInEach("1=2@=3");
        dueFaultInEach("1<@<3");
        dueFaultInEach("@<3");
        dueFaultInEach("@=3");
        dueGoodInEach("(1<2)<3");
    }

    static void whatMustStandBehindASign() {
        about(9, "the place of the first byte of the first TOKEN that can't stand there");
        for (String sign : new String[] {"+", "-", "*", "<", "=", " or ", " and "}) {
            dueFaultInEach("1" + sign + "@");
            dueFaultInEach("1" + sign + "@*1");
            dueFaultInEach("1" + sign + "@+1");
            dueFaultInEach("1" + sign + "@)");
        }
        dueFaultInEach("@+1");
        dueFaultInEach("@*1");
        dueFaultInEach("@)");
        dueFaultInEach("(@)");
        dueFaultInEach("(1@");
        dueFaultInEach("(1)@)");
        dueFaultInEach("not @");
        dueFaultInEach("-@");
    }

    static void theFirstFaultOfSeveral() {
        about(9, "the place of the first byte of the first TOKEN that can't stand there");
        dueFault("takes @;;;!");
        dueFault("takes 1 @1;keeps 12345;shakes !;");
        dueFault("takes @12345;keeps gapp;shakes !");
        dueFault("takes (((((@(");
        dueFault("takes (((((@(((((12345");
    }

    // ---- promise 9: how many are open

    static void fiveMayBeOpen() {
        about(9, "while 5 of these are open");
        dueGoodInEach("(((((1)))))");
        dueFaultInEach("(((((@(1))))))");
        dueGoodInEach("-----1");
        dueFaultInEach("-----@-1");
        dueGood("takes not not not not not 1;keeps 2;shakes 3;");
        dueGood("takes 1;keeps not not not not not 1;shakes 3;");
        dueFaultInEach("not not not not not @not 1");
    }

    static void theyAreCountedTogether() {
        about(9, "a ( , a not, a - ahead of a ONE while 5 of these are open");
        dueGoodInEach("not(-(-1))");
        dueFaultInEach("not(-(-@(1)))");
        dueFaultInEach("not(-(-@-1))");
        dueFaultInEach("((((not @not 1))))");
        dueFaultInEach("((((-@-1))))");
        dueFaultInEach("----(@(1))");
        dueFaultInEach("not not not not(@not 1)");
        dueFaultInEach("not not not not -@-1");
        dueFaultInEach("not not not not -@(1)");
    }

    static void aBracketIsOpenTillItIsClosed() {
        about(9, "(a ( till its ) ,");
        dueGood("takes (((((1)))))+(((((1)))));keeps 2;shakes 3;");
        dueGood("takes ((((1)+(2)*(3)-(4)<(5)and(6)or(7))));keeps 2;shakes 3;");
        dueFaultInEach("(((((1)+(@(1");
        dueFaultInEach("(((((1+@(1");
        dueFaultInEach("(((((1 and @not 1");
        dueFaultInEach("(((((1 or @-1");
        dueFaultInEach("(((((1)+-@-1");
        dueGoodInEach("((((1)+-1)))");
    }

    static void notAndMinusAreOpenTillWhatTheyBelongToEnds() {
        about(9, "not and - till what they belong to ends");
        dueGoodInEach("-----1*-1");
        dueGood("takes -----1*-----1+-----1--- - - -1;keeps 2;shakes 3;");
        dueGood("takes not not not not not 1 and not not not not not 1;keeps 2;shakes 3;");
        dueGood("takes not not not not not 1 or not not not not not 1;keeps 2;shakes 3;");
        dueFaultInEach("not not not not not 1+@-1");
        dueFaultInEach("not not not not not 1<@(1)");
        dueFaultInEach("not not not not not 1*@-1");
        dueGoodInEach("not not not not 1+-1");
        dueGoodInEach("not not not not 1 and-----1");
        dueFaultInEach("not not not not 1+-@-1");
        dueFaultInEach("-(-(-@-1))");
        dueGoodInEach("-(-(-1))+-(-(-1))");
    }

    static void noneIsOpenAtFirst() {
        about(9, "while 5 of these are open");
        Run x = new Run();
        x.dueText(NO_ANSWER - 11, "takes (((((");
        x.dueText(NO_ANSWER - 11, "takes ((((((");
        x.dueText(NO_ANSWER - 11, "takes -----");
        x.dueText(1, "takes (((((1)))));keeps 2;shakes 3;");
        x.dueText(NO_ANSWER - 26, "takes not not not not not ");
        x.dueText(2, "takes -----1;keeps 2;shakes 3;");
    }

    static void aMinusBetweenIsNoneOfThese() {
        about(9, "a - ahead of a ONE");
        dueGoodInEach("(((((1-1)))))");
        dueGoodInEach("-----1-1");
        dueGoodInEach("1-1-1-1-1-1-1-1");
        dueFaultInEach("(((((1-@-1");
        dueFaultInEach("1------@-1");
    }

    // ---- promise 9: what an E is worth

    static void anEWraps() {
        about(9, "An E is an int (32 bits, wrapping)");
        String greatest = "9999*9999*21+9999*4790+8416";
        dueWorth(1, "0<" + greatest);
        dueWorth(1, greatest + "+1<0");
        dueWorth(1, greatest + "+1=0-(" + greatest + ")-1");
        dueWorth(1, "0-(" + greatest + ")-1<0");
        dueWorth(1, "0<0-(" + greatest + ")-2");
        dueWorth(1, "-(" + greatest + "+1)<0");
        dueWorth(1, "-(" + greatest + "+1)=" + greatest + "+1");
        dueWorth(1, "(" + greatest + ")*2=-2");
        dueWorth(0, "9999*9999*22");
        dueWorth(24, "9999*9999*43");
        dueWorth(1, "9999*9999*43=9999*417+3164");
    }

    static void comparisonsAreNoDifferences() {
        about(9, "An E is an int (32 bits, wrapping)");
        dueWorth(1, "9999*9999*22<9999*9999*21");
        dueWorth(0, "9999*9999*21<9999*9999*22");
        dueWorth(1, "-9999*9999*21<9999*9999");
    }

    static void whatIsTrueIsOne() {
        about(9, "of or, and, not, <, = 1 or 0 (what is not 0 is true)");
        dueWorth(1, "7 or 0");
        dueWorth(1, "0 or -1");
        dueWorth(1, "7 or 7");
        dueWorth(0, "0 or 0");
        dueWorth(1, "7 and -1");
        dueWorth(0, "7 and 0");
        dueWorth(0, "0 and 7");
        dueWorth(0, "not 7");
        dueWorth(0, "not -1");
        dueWorth(1, "not 0");
        dueWorth(1, "not not 7");
        dueWorth(1, "1<2");
        dueWorth(0, "2<2");
        dueWorth(0, "3<2");
        dueWorth(1, "2=2");
        dueWorth(0, "2=3");
        dueWorth(7, "7");
        dueWorth(7, "(7)");
        dueWorth(1, "9999*9999*22 and 1");
    }

    static void whatIsNotTrueIsZero() {
        about(9, "of or, and, not, <, = 1 or 0 (what is not 0 is true)");
        for (String none : new String[] {"0 or 0", "0 and 0", "0 and 7", "7 and 0", "not 7", "7<7", "8<7", "7=8", "8=7", "not not 0"}) {
            dueWorth(5, "5+(" + none + ")");
            dueWorth(5, "5-(" + none + ")");
        }
        for (String one : new String[] {"0 or 7", "7 or 0", "7 or 7", "7 and 7", "not 0", "6<7", "7=7", "not not 7"}) {
            dueWorth(6, "5+(" + one + ")");
            dueWorth(4, "5-(" + one + ")");
        }
    }

    static void whatBindsCloser() {
        about(9, "E: AND { or AND }. AND: NOT { and NOT }. NOT: not NOT, or SUM");
        dueWorth(1, "1 or 1 and 0");
        dueWorth(0, "(1 or 1) and 0");
        dueWorth(1, "0 and 0 or 1");
        dueWorth(1, "not 1 or 1");
        dueWorth(0, "not(1 or 1)");
        dueWorth(0, "not 1 and 0");
        dueWorth(1, "not(1 and 0)");
        dueWorth(1, "not 2=3");
        dueWorth(1, "not 3<2");
        dueWorth(0, "not 0+1");
        dueWorth(1, "1+1=2");
        about(9, "SUM: TERM { + or - TERM }. TERM: ONE { * ONE }.");
        dueWorth(4, "9-3-2");
        dueWorth(8, "9-(3-2)");
        dueWorth(8, "9-3+2");
        dueWorth(14, "2+3*4");
        dueWorth(20, "(2+3)*4");
        dueWorth(12, "20-2*4");
        dueWorth(24, "-2*-3*4");
        dueWorth(5, "-3+8");
        dueWorth(3, "--3");
        dueWorth(7, "3--4");
    }

    // ---- promise 9: names

    static void gapIsSizeOrGapsOfTheRow() {
        about(9, "gap: of takes SIZE, of shakes how many GAPS the ROW has, else 0");
        Run x = Run.ruled("takes gap-1;keeps gap+50;shakes gap-2;").one(0, 0, 100);
        x.due(0, "asks", 0, 1);
        x.due(23, "asks", 0, 24);
        x.due(50, "told", 0, 4);
        x.due(0, "told", 0, 10);
        x.row(0, "..#.#.").due(2, "told", 0, 10);
        x.row(0, "######").due(0, "told", 0, 10);
        x.row(0, ".".repeat(10)).due(8, "told", 0, 10);
        x.due(50, "told", 0, 4);
    }

    static void nthIsTheNumberOfTheRun() {
        about(9, "nth: of takes the number of the RUN, else 0");
        Run x = Run.ruled("takes nth;keeps nth+50;shakes nth+5;").one(0, 0, 100).row(0, "#.".repeat(12));
        x.due(11, "tries", 0, 0, 0);
        x.due(50, "told", 0, 4);
        x.due(5, "told", 0, 10);
        x.row(0, "............#..........#");
        x.due(1, "glean", 0, 0);
        x.dueRow(0, "............#.........#");
    }

    static void numberIsZeroOfShakes() {
        about(9, "number: NUMBER (of shakes 0)");
        Run x = Run.ruled("takes number;keeps number;shakes number+5;").one(0, 9, 100);
        x.due(9, "asks", 0, 24);
        x.due(9, "told", 0, 4);
        x.due(5, "told", 0, 10);
        x.due(9, "set", 1, 0, 0);
        x.due(0, "asks", 0, 24);
        x.due(0, "told", 0, 4);
    }

    static void nightIsNightOfAll() {
        about(9, "night: NIGHT");
        Run x = Run.ruled("takes night-990;keeps night-990;shakes night-993;").one(0, 0, 100).at(999);
        x.due(9, "asks", 0, 24);
        x.due(9, "told", 0, 4);
        x.due(6, "told", 0, 10);
        x.at(0);
        x.due(0, "asks", 0, 24);
        x.due(0, "told", 0, 4);
        x.due(0, "told", 0, 10);
    }

    static void apronIsZeroOfShakes() {
        about(9, "apron: APRON (of shakes 0)");
        Run x = Run.ruled("takes apron-990;keeps apron-990;shakes apron+5;").one(0, 0, 999);
        x.due(9, "asks", 0, 24);
        x.due(89, "told", 0, 4);
        x.due(5, "told", 0, 10);
    }

    static void rowIsLengthOrWhichRow() {
        about(9, "row: of takes LENGTH of the ROW as it is then, of shakes which ROW it is, else 0");
        Run x = Run.ruled("takes row-20;keeps row+50;shakes row+5;").one(0, 0, 100);
        x.due(4, "asks", 0, 24);
        x.due(50, "told", 0, 4);
        for (int row = 0; row < 4; row++) {
            x.due(5 + row, "told", row, 10);
        }
        x.due(50, "told", 0, 4);
        x.row(0, ".....#................").due(2, "tries", 0, 0, 0);
        x.row(0, ".").due(0, "tries", 0, 0, 0);
    }

    static void shakesHasNothingOfTheGleanerAskedBefore() {
        about(9, "nth: of takes the number of the RUN, else 0");
        Run x = Run.ruled("takes nth;keeps 0;shakes 3+nth+number+apron;").one(0, 9, 8).row(0, "#.".repeat(12));
        x.due(11, "tries", 0, 0, 0);
        x.due(3, "told", 1, 10);
        about(9, "number: NUMBER (of shakes 0); night: NIGHT; apron: APRON (of shakes 0)");
        x.due(0, "told", 0, 4);
        x.due(3, "told", 1, 10);
        x.due(12, "film", 0, 0, 0);
        x.due(3, "told", 1, 10);
    }

    static void keepsHasNothingOfWhatWasAskedBefore() {
        about(9, "row: of takes LENGTH of the ROW as it is then, of shakes which ROW it is, else 0");
        Run x = Run.ruled("takes nth;keeps 50+gap+nth+row;shakes 3;").one(0, 9, 100).row(0, "#.".repeat(12));
        x.due(11, "tries", 0, 0, 0);
        x.due(50, "told", 0, 4);
        x.due(3, "told", 3, 10);
        x.due(50, "told", 0, 4);
    }

    static void nightIsAsItIsNowForEach() {
        about(9, "night: NIGHT");
        Run x = Run.ruled("takes night;keeps night;shakes night;").one(0, 0, 100);
        x.at(3).due(3, "told", 0, 10);
        x.at(4).due(4, "told", 0, 10);
        x.at(5).due(5, "told", 0, 4);
        x.at(6).due(6, "told", 0, 4);
        x.at(7).due(7, "asks", 0, 24);
        x.at(8).due(8, "told", 0, 10);
        x.at(9).due(9, "asks", 0, 24);
    }

    // ---- promise 10

    static void forceOfTheTextsThereAre() {
        about(10, "A TEXT is THE RULE: which was. BAD.");
        Run x = new Run();
        x.due(0, "force", 0);
        for (int text : new int[] {-1, 1, 5, 6, LOW, HIGH}) {
            x.refused(BAD, "force", text);
        }
        Run y = sixTexts();
        y.due(5, "force", 5);
        y.due(5, "force", 0);
        y.due(0, "force", 5);
        for (int text : new int[] {-1, 6, LOW, HIGH}) {
            y.refused(BAD, "force", text);
        }
        for (int text : new int[] {-1, 2, 6, LOW, HIGH}) {
            Run.full().refused(BAD, "force", text);
        }
    }

    static void aTextIsNoRuleTillItIsForced() {
        about(10, "A TEXT is THE RULE: which was.");
        Run x = new Run().one(0, 0, 100);
        x.dueText(1, PLAIN);
        x.due(24, "asks", 0, 24);
        x.due(0, "force", 1);
        x.due(1, "asks", 0, 24);
        x.due(2, "told", 0, 4);
        x.due(3, "told", 0, 10);
        x.due(1, "count", 5);
        x.due(1, "force", 0);
        x.due(24, "asks", 0, 24);
    }
}
