import java.util.Arrays;

/** Rows of a stubble, gleaners of kinds who close its gaps, and texts that tell how much. */
public final class GleanersForGaps {
    public static final int NONE = -1, BAD = -2, STATE = -3, FULL = -4;
    public static final long NO = -4611686018427387904L;

    private static final int NOTHING = -11, OUTSIDE = -12, OTHER_SORT = -13, SIZE_BELOW = -14;
    private static final int NO_ANSWER = -100, NO_BEST = -1000;

    private static final int ROWS = 4, PLACES = 24, RUNS = 12;
    private static final int GLEANERS = 5, ORDERS = 120;
    private static final int MOST_NUMBER = 9, MOST_APRON = 999, LAST_NIGHT = 999;
    private static final int NIGHTS_AHEAD = 20, APRONS_TRIED = 100, SEEDS = 20;
    private static final int TAPE_SIZE = 160, TEXTS = 6, MOST_OPEN = 5, MOST_DIGITS = 4;
    private static final int SHEETS = 4, SHEET_SIZE = 40, SORTS = 3;

    private static final int GLEANER = 0, WIDOW = 1, RICH = 2, LARK = 3, OLD = 4, CHILD = 5, KINDS = 6;
    private static final int[] KIND_ABOVE = {NONE, GLEANER, GLEANER, WIDOW, RICH, GLEANER};

    private static final int TAKES = 0, KEEPS = 1, SHAKES = 2, PARTS = 3;

    // What a text is made of, once read: names first, then what is done to one or two values, then numbers.
    private static final int GAP = 0, NTH = 1, NUMBER = 2, NIGHT = 3, APRON = 4, ROW = 5, NAMES = 6;
    private static final int NEGATED = 6, DENIED = 7, EITHER = 8, BOTH = 9, LESS = 10, SAME = 11;
    private static final int PLUS = 12, MINUS = 13, TIMES = 14, FIRST_NUMBER = 100;

    // What a token is; a sign is told by its own byte, which is greater than all of these.
    private static final int AT_END = 0, WRONG = 1, A_NUMBER = 2, A_NAME = 3, FIRST_KEY = 4;
    private static final int KEY_OR = 7, KEY_AND = 8, KEY_NOT = 9, WORDS = 12;

    private final State now = new State();
    private final State thought = new State();
    private final State image = new State();
    private final Gleaning gleaning = new Gleaning();
    private final Rule rule = gleaning.rule;
    private final Order turns = new Order();
    private final Tape tape = new Tape();
    private final Sheet[] sheets = new Sheet[SHEETS];
    private boolean imageKept;

    public GleanersForGaps() {
        for (int i = 0; i < SHEETS; i++) {
            sheets[i] = new Sheet();
        }
    }

    // ---- rows, gleaners

    public int lay(int row, int length, int stalks) {
        if (!now.hasRow(row) || !isWithin(length, 0, PLACES) || !isWithin(stalks, 0, (1 << length) - 1)) {
            return BAD;
        }
        now.length[row] = length;
        now.stalks[row] = stalks;
        return now.left(row);
    }

    public int set(int what, int of, int v) {
        switch (what) {
            case 0:
                return isWithin(v, 0, LAST_NIGHT) ? nightBecomes(v) : BAD;
            case 1:
                return isWithin(v, 0, MOST_NUMBER) ? becomes(now.number, of, v) : BAD;
            case 2:
                return isWithin(v, 0, MOST_APRON) ? becomes(now.apron, of, v) : BAD;
            default:
                return BAD;
        }
    }

    private int nightBecomes(int v) {
        int was = now.night;
        now.night = v;
        return was;
    }

    private int becomes(int[] ofGleaners, int one, int v) {
        if (!now.hasGleaner(one)) {
            return BAD;
        }
        int was = ofGleaners[one];
        ofGleaners[one] = v;
        return was;
    }

    public int gleaner(int kind, int number) {
        return now.comes(kind, number);
    }

    public int told(int of, int what) {
        if (what == 0) {
            return now.night;
        }
        if (isWithin(what, 1, 4)) {
            return now.hasGleaner(of) ? toldOfGleaner(of, what) : BAD;
        }
        if (isWithin(what, 5, 10)) {
            return now.hasRow(of) ? toldOfRow(of, what) : BAD;
        }
        return BAD;
    }

    private int toldOfGleaner(int one, int what) {
        switch (what) {
            case 1:
                return now.number[one];
            case 2:
                return now.apron[one];
            case 3:
                return now.kind[one];
            default:
                return gleaning.kept(now, one);
        }
    }

    private int toldOfRow(int row, int what) {
        switch (what) {
            case 5:
                return now.length[row];
            case 6:
                return now.stalks[row];
            case 7:
                return now.left(row);
            case 8:
                return now.runs(row);
            case 9:
                return now.greatestSize(row);
            default:
                return rule.shakesTold(now, row);
        }
    }

    public int run(int row, int k) {
        if (!now.hasRow(row) || !isWithin(k, 0, now.runs(row) - 1)) {
            return BAD;
        }
        return now.sizeOfRun(row, k);
    }

    public int asks(int one, int g) {
        if (!now.hasGleaner(one) || !isWithin(g, 1, PLACES)) {
            return NO_ANSWER;
        }
        return gleaning.wanted(now, one, g, rule.takesTold(now, one, g, 0, PLACES));
    }

    // ---- texts

    public int feed(int letter) {
        if (!isWithin(letter, 0, 255)) {
            return BAD;
        }
        return tape.grows(letter) ? tape.size : FULL;
    }

    public int text() {
        if (rule.count >= TEXTS) {
            return FULL;
        }
        int fault = tape.readWhole();
        tape.size = 0;
        return fault == NONE ? rule.keepsText(tape.draft) : NO_ANSWER - fault;
    }

    public int force(int text) {
        if (!isWithin(text, 0, rule.count - 1)) {
            return BAD;
        }
        int was = now.rule;
        now.rule = text;
        return was;
    }

    // ---- gleaning, nights

    public int glean(int one, int row) {
        if (!now.hasGleaner(one) || !now.hasRow(row)) {
            return NO_ANSWER;
        }
        return gleaning.goAlong(now, one, row);
    }

    public int go(int row, int order) {
        if (!now.hasRow(row) || !turns.isReadFrom(order, now.crew)) {
            return BAD;
        }
        gleaning.allGo(now, row, turns, NONE);
        return now.left(row);
    }

    public int night() {
        if (now.night >= LAST_NIGHT) {
            return STATE;
        }
        gleaning.passNight(now);
        return now.leftOfAll();
    }

    public int tries(int one, int row, int what) {
        if (!now.hasGleaner(one) || !now.hasRow(row) || !isWithin(what, 0, 3)) {
            return NO_ANSWER;
        }
        thought.becomes(now);
        int taken = gleaning.goAlong(thought, one, row);
        switch (what) {
            case 0:
                return taken;
            case 1:
                return thought.left(row);
            case 2:
                return thought.apron[one];
            default:
                return thought.greatestSize(row);
        }
    }

    public int nights(int one, int row, int n, int what) {
        if (!now.hasGleaner(one) || !now.hasRow(row) || !isWithin(n, 0, NIGHTS_AHEAD) || !isWithin(what, 0, 1)) {
            return BAD;
        }
        thought.becomes(now);
        for (int i = 0; i < n; i++) {
            dayAndNight(row);
        }
        return what == 0 ? thought.apron[one] : thought.left(row);
    }

    private void dayAndNight(int row) {
        turns.startsFirst(thought.crew);
        gleaning.allGo(thought, row, turns, NONE);
        gleaning.passNight(thought);
    }

    // ---- what would be best

    public int first(int one, int row, int what) {
        if (!now.hasGleaner(one) || !now.hasRow(row) || !isWithin(what, 0, 1)) {
            return NO_BEST;
        }
        int bestOrder = 0;
        int most = 0;
        boolean more = true;
        turns.startsFirst(now.crew);
        for (int i = 0; i < ORDERS && more; i++) {
            thought.becomes(now);
            int taken = gleaning.allGo(thought, row, turns, one);
            if (i == 0 || taken > most) {
                most = taken;
                bestOrder = turns.digits();
            }
            more = turns.advances();
        }
        return what == 0 ? bestOrder : most;
    }

    public int best(int row, int what) {
        if (!now.hasRow(row)) {
            return NO_BEST;
        }
        switch (what) {
            case 0:
            case 1:
                return leastLeft(row, what == 0);
            case 2:
            case 3:
                return alone(row, what == 2);
            case 4:
                return bare(row);
            default:
                return NO_BEST;
        }
    }

    private int leastLeft(int row, boolean wantsOrder) {
        int bestOrder = 0;
        int least = 0;
        boolean more = true;
        turns.startsFirst(now.crew);
        for (int i = 0; i < ORDERS && more; i++) {
            thought.becomes(now);
            gleaning.allGo(thought, row, turns, NONE);
            int left = thought.left(row);
            if (i == 0 || left < least) {
                least = left;
                bestOrder = turns.digits();
            }
            more = turns.advances();
        }
        return wantsOrder ? bestOrder : least;
    }

    private int alone(int row, boolean wantsWho) {
        int who = NONE;
        int most = NONE;
        for (int one = 0; one < now.crew; one++) {
            thought.becomes(now);
            int taken = gleaning.goAlong(thought, one, row);
            if (who == NONE || taken > most) {
                who = one;
                most = taken;
            }
        }
        return wantsWho ? who : most;
    }

    private int bare(int row) {
        thought.becomes(now);
        for (int n = 0; n < NIGHTS_AHEAD; n++) {
            if (thought.left(row) == 0) {
                return n;
            }
            dayAndNight(row);
        }
        return thought.left(row) == 0 ? NIGHTS_AHEAD : NONE;
    }

    public int rowFor(int one, int what) {
        if (!now.hasGleaner(one) || !isWithin(what, 0, 1)) {
            return NO_BEST;
        }
        int bestRow = NONE;
        int most = 0;
        for (int row = 0; row < ROWS; row++) {
            thought.becomes(now);
            int taken = gleaning.goAlong(thought, one, row);
            if (bestRow == NONE || taken > most) {
                bestRow = row;
                most = taken;
            }
        }
        return what == 0 ? bestRow : most;
    }

    public int longest() {
        int found = NONE;
        int greatest = 0;
        for (int row = 0; row < ROWS; row++) {
            int runs = now.runs(row);
            for (int k = 0; k < runs; k++) {
                int size = now.sizeOfRun(row, k);
                if (size > greatest) {
                    greatest = size;
                    found = 100 * row + k;
                }
            }
        }
        return found;
    }

    public long close(int part) {
        int places = 0;
        for (int row = 0; row < ROWS; row++) {
            places += now.length[row];
        }
        if (!isWithin(part, 0, 1) || places == 0) {
            return NO;
        }
        return partOfFraction(places - now.leftOfAll(), places, part);
    }

    // ---- what was told of a row

    public int tells(int sheet, int one, int row, int what) {
        if (!isSheet(sheet) || !now.hasGleaner(one) || !now.hasRow(row) || !isWithin(what, 0, 7)) {
            return BAD;
        }
        Sheet told = sheets[sheet];
        if (told.isMissing()) {
            return NOTHING;
        }
        if (told.size > now.runs(row)) {
            return BAD;
        }
        switch (what) {
            case 0:
                thought.becomes(now);
                return firstOtherwise(told, one, row);
            case 1:
                return kindsSo(told, one, row);
            case 2:
                return numbersSo(told, one, row);
            case 3:
            case 4:
                return apronsSo(told, one, row, what == 4);
            case 5:
                return textsSo(told, one, row);
            case 6:
                return gleanersSo(told, row);
            default:
                return rowsSo(told, one);
        }
    }

    /** Changes the thought: one gleans there, and each run is held against the sheet. */
    private int firstOtherwise(Sheet told, int one, int row) {
        gleaning.goAlong(thought, one, row);
        for (int i = 0; i < told.size; i++) {
            if (i >= gleaning.runs || told.item[i] != gleaning.takenOfRun[i]) {
                return i;
            }
        }
        return NONE;
    }

    private int kindsSo(Sheet told, int one, int row) {
        int bits = 0;
        for (int kind = 0; kind < KINDS; kind++) {
            thought.becomes(now);
            thought.kind[one] = kind;
            bits |= bitIf(firstOtherwise(told, one, row) == NONE, kind);
        }
        return bits;
    }

    private int numbersSo(Sheet told, int one, int row) {
        int bits = 0;
        for (int number = 0; number <= MOST_NUMBER; number++) {
            thought.becomes(now);
            thought.number[one] = number;
            bits |= bitIf(firstOtherwise(told, one, row) == NONE, number);
        }
        return bits;
    }

    private int apronsSo(Sheet told, int one, int row, boolean wantsLeast) {
        int many = 0;
        int least = NONE;
        for (int apron = 0; apron < APRONS_TRIED; apron++) {
            thought.becomes(now);
            thought.apron[one] = apron;
            if (firstOtherwise(told, one, row) == NONE) {
                least = many == 0 ? apron : least;
                many++;
            }
        }
        return wantsLeast ? least : many;
    }

    private int textsSo(Sheet told, int one, int row) {
        int bits = 0;
        for (int text = 0; text < rule.count; text++) {
            thought.becomes(now);
            thought.rule = text;
            bits |= bitIf(firstOtherwise(told, one, row) == NONE, text);
        }
        return bits;
    }

    private int gleanersSo(Sheet told, int row) {
        int bits = 0;
        for (int one = 0; one < now.crew; one++) {
            thought.becomes(now);
            bits |= bitIf(firstOtherwise(told, one, row) == NONE, one);
        }
        return bits;
    }

    private int rowsSo(Sheet told, int one) {
        int bits = 0;
        for (int row = 0; row < ROWS; row++) {
            thought.becomes(now);
            bits |= bitIf(told.size <= now.runs(row) && firstOtherwise(told, one, row) == NONE, row);
        }
        return bits;
    }

    public int film(int sheet, int one, int row) {
        if (!isSheet(sheet) || !now.hasGleaner(one) || !now.hasRow(row)) {
            return BAD;
        }
        thought.becomes(now);
        gleaning.goAlong(thought, one, row);
        Sheet filmed = sheets[sheet];
        filmed.becomes(0, gleaning.runs);
        for (int i = 0; i < gleaning.runs; i++) {
            filmed.puts(i, gleaning.takenOfRun[i]);
        }
        return gleaning.runs;
    }

    public int drawn(int seed, int one) {
        return now.hasGleaner(one) ? takenOfDrawn(seed, one) : NO_ANSWER;
    }

    private int takenOfDrawn(int seed, int one) {
        int z = seed;
        int stalks = 0;
        for (int place = 0; place < PLACES; place++) {
            z = z * 1103515245 + 12345;
            stalks |= bitIf((z >>> 9) % 3 != 0, place);
        }
        thought.becomes(now);
        thought.length[0] = PLACES;
        thought.stalks[0] = stalks;
        return gleaning.goAlong(thought, one, 0);
    }

    public long chance(int seed, int m, int one, int k, int part) {
        if (!isWithin(m, 1, SEEDS) || !now.hasGleaner(one) || !isWithin(k, 0, PLACES) || !isWithin(part, 0, 1)) {
            return NO;
        }
        int many = 0;
        for (int i = 0; i < m; i++) {
            if (takenOfDrawn(seed + i, one) >= k) {
                many++;
            }
        }
        return partOfFraction(many, m, part);
    }

    public int image() {
        image.becomes(now);
        imageKept = true;
        return now.crew;
    }

    public int back() {
        if (!imageKept) {
            return STATE;
        }
        now.becomes(image);
        return now.crew;
    }

    public int count(int what) {
        switch (what) {
            case 0:
                return now.crew;
            case 1:
                return now.leftOfAll();
            case 2:
                return now.night;
            case 3:
                return rule.count;
            case 4:
                return tape.size;
            case 5:
                return now.rule;
            default:
                return BAD;
        }
    }

    // ---- the host

    public int sheet(int sheet, int sort, int n) {
        if (!isSheet(sheet) || !isWithin(sort, NONE, SORTS - 1)) {
            return BAD;
        }
        if (sort == NONE) {
            sheets[sheet].becomes(NONE, 0);
            return 1;
        }
        if (n > SHEET_SIZE) {
            return BAD;
        }
        if (n < 0) {
            return SIZE_BELOW;
        }
        sheets[sheet].becomes(sort, n);
        return 1;
    }

    public int cell(int sheet, int i, int v) {
        if (!isSheet(sheet)) {
            return BAD;
        }
        Sheet written = sheets[sheet];
        if (written.isMissing()) {
            return NOTHING;
        }
        return written.puts(i, v) ? 1 : OUTSIDE;
    }

    public int copy(int sheet, int i, int other, int j, int n) {
        if (!isSheet(sheet) || !isSheet(other)) {
            return BAD;
        }
        Sheet source = sheets[sheet];
        Sheet target = sheets[other];
        if (source.isMissing() || target.isMissing()) {
            return NOTHING;
        }
        if (source.sort != target.sort) {
            return OTHER_SORT;
        }
        if (!source.hasItems(i, n) || !target.hasItems(j, n)) {
            return OUTSIDE;
        }
        System.arraycopy(source.item, i, target.item, j, n);
        return n;
    }

    public int gleaners(int sheet, int sort, int from, int n) {
        if (!isSheet(sheet) || !isWithin(sort, 0, SORTS - 1) || !isWithin(n, 0, GLEANERS)) {
            return BAD;
        }
        Sheet read = sheets[sheet];
        if (!read.isMissing() && read.sort != sort) {
            return OTHER_SORT;
        }
        if (read.isMissing()) {
            return NOTHING;
        }
        int came = 0;
        int at = from;
        for (int i = 0; i < n; i++) {
            if (!read.hasItems(at, 2)) {
                return OUTSIDE;
            }
            if (now.comes(read.item[at], read.item[at + 1]) >= 0) {
                came++;
            }
            at += 2;
        }
        return came;
    }

    public int taken(int gleaner, int k) {
        if (!isWithin(k, 0, KINDS - 1)) {
            return BAD;
        }
        if (!now.hasGleaner(gleaner)) {
            return NOTHING;
        }
        return isUnder(now.kind[gleaner], k) ? now.number[gleaner] : OTHER_SORT;
    }

    // ---- what the parts share

    private boolean isSheet(int sheet) {
        return isWithin(sheet, 0, SHEETS - 1);
    }

    private static boolean isWithin(int v, int low, int high) {
        return v >= low && v <= high;
    }

    private static int bounded(int v, int low, int high) {
        return v < low ? low : v > high ? high : v;
    }

    private static int bitIf(boolean so, int bit) {
        return so ? 1 << bit : 0;
    }

    private static boolean isUnder(int kind, int k) {
        int above = kind;
        for (int i = 0; i < KINDS && isWithin(above, 0, KINDS - 1); i++) {
            if (above == k) {
                return true;
            }
            above = KIND_ABOVE[above];
        }
        return false;
    }

    private static long partOfFraction(int above, int below, int part) {
        int divisor = greatestDivisor(above, below);
        if (divisor == 0) {
            return NO;
        }
        return part == 0 ? above / divisor : below / divisor;
    }

    private static int greatestDivisor(int a, int b) {
        int greater = a;
        int rest = b;
        for (int i = 0; i < ROWS * PLACES && rest != 0; i++) {
            int next = greater % rest;
            greater = rest;
            rest = next;
        }
        return greater;
    }

    /** All that an image keeps, and so all that a thought may change. */
    private static final class State {
        final int[] length = new int[ROWS];
        final int[] stalks = new int[ROWS];
        final int[] kind = new int[GLEANERS];
        final int[] number = new int[GLEANERS];
        final int[] apron = new int[GLEANERS];
        int crew;
        int night;
        int rule;

        void becomes(State other) {
            System.arraycopy(other.length, 0, length, 0, ROWS);
            System.arraycopy(other.stalks, 0, stalks, 0, ROWS);
            System.arraycopy(other.kind, 0, kind, 0, GLEANERS);
            System.arraycopy(other.number, 0, number, 0, GLEANERS);
            System.arraycopy(other.apron, 0, apron, 0, GLEANERS);
            crew = other.crew;
            night = other.night;
            rule = other.rule;
        }

        boolean hasRow(int row) {
            return isWithin(row, 0, ROWS - 1);
        }

        boolean hasGleaner(int one) {
            return isWithin(one, 0, crew - 1);
        }

        int comes(int itsKind, int itsNumber) {
            if (!isWithin(itsKind, 0, KINDS - 1) || !isWithin(itsNumber, 0, MOST_NUMBER)) {
                return BAD;
            }
            if (crew >= GLEANERS) {
                return FULL;
            }
            int one = crew;
            kind[one] = itsKind;
            number[one] = itsNumber;
            apron[one] = 0;
            crew++;
            return one;
        }

        private int gapBits(int row) {
            return ~stalks[row] & ((1 << length[row]) - 1);
        }

        int left(int row) {
            return Integer.bitCount(gapBits(row));
        }

        int leftOfAll() {
            int gaps = 0;
            for (int row = 0; row < ROWS; row++) {
                gaps += left(row);
            }
            return gaps;
        }

        int runs(int row) {
            int gaps = gapBits(row);
            int firstOfEach = gaps & ~(gaps << 1);
            return Integer.bitCount(firstOfEach);
        }

        int sizeOfRun(int row, int k) {
            int gaps = gapBits(row);
            int run = NONE;
            int size = 0;
            for (int place = 0; place < PLACES; place++) {
                boolean isGap = (gaps >> place & 1) == 1;
                boolean isBehindGap = place > 0 && (gaps >> (place - 1) & 1) == 1;
                if (isGap && !isBehindGap) {
                    run++;
                }
                if (isGap && run == k) {
                    size++;
                }
            }
            return size;
        }

        int greatestSize(int row) {
            int greatest = 0;
            int runs = runs(row);
            for (int k = 0; k < runs; k++) {
                greatest = Math.max(greatest, sizeOfRun(row, k));
            }
            return greatest;
        }
    }

    /** How those who are there go one behind the other; the orders come by their digits, the least first. */
    private static final class Order {
        final int[] at = new int[GLEANERS];
        int size;

        void startsFirst(int crew) {
            size = bounded(crew, 0, GLEANERS);
            for (int i = 0; i < size; i++) {
                at[i] = i;
            }
        }

        boolean isReadFrom(int digits, int crew) {
            size = bounded(crew, 0, GLEANERS);
            int seen = 0;
            int rest = digits;
            for (int i = size - 1; i >= 0; i--) {
                int one = rest % 10 - 1;
                if (!isWithin(one, 0, size - 1) || (seen >> one & 1) == 1) {
                    return false;
                }
                at[i] = one;
                seen |= 1 << one;
                rest /= 10;
            }
            return rest == 0;
        }

        int digits() {
            int digits = 0;
            for (int i = 0; i < size; i++) {
                digits = digits * 10 + at[i] + 1;
            }
            return digits;
        }

        /** The next order by digits; false behind the last. */
        boolean advances() {
            int turn = size - 2;
            while (turn >= 0 && at[turn] > at[turn + 1]) {
                turn--;
            }
            if (turn < 0) {
                return false;
            }
            int other = size - 1;
            while (other > turn && at[other] < at[turn]) {
                other--;
            }
            swap(turn, other);
            for (int i = turn + 1, j = size - 1; i < j; i++, j--) {
                swap(i, j);
            }
            return true;
        }

        private void swap(int i, int j) {
            int was = at[i];
            at[i] = at[j];
            at[j] = was;
        }
    }

    /** What gleaners and nights do to a state. */
    private static final class Gleaning {
        final Rule rule = new Rule();
        final int[] takenOfRun = new int[RUNS];
        int runs;

        /** What one takes of a run, takes telling v; below 0: what an old one would put, were there room. */
        int wanted(State state, int one, int g, int v) {
            int number = state.number[one];
            switch (state.kind[one]) {
                case WIDOW:
                    return bounded(asWidow(g, v), 0, g);
                case RICH:
                    return g;
                case LARK:
                    return g == 1 ? 0 : bounded(asWidow(g, v), 0, g);
                case OLD:
                    return state.apron[one] >= number ? -number : g;
                case CHILD:
                    return bounded(v / 2, 0, g);
                default:
                    return bounded(v, 0, g);
            }
        }

        private static int asWidow(int g, int v) {
            return g % 2 == 1 ? v + 1 : v;
        }

        int kept(State state, int one) {
            int apron = state.apron[one];
            int hundredths = apron * rule.keepsTold(state, one) / 100;
            switch (state.kind[one]) {
                case RICH:
                    return apron;
                case LARK:
                    return bounded(hundredths - state.number[one], 0, MOST_APRON);
                case OLD:
                    return apron / 2;
                case CHILD:
                    return 0;
                default:
                    return hundredths;
            }
        }

        /** One gleans a row, run by run; what was taken of each run stands in takenOfRun then. */
        int goAlong(State state, int one, int row) {
            int placesAhead = state.length[row];
            int stalksAhead = state.stalks[row];
            int stalks = 0;
            int place = 0;
            int size = 0;
            int together = 0;
            runs = 0;
            for (int k = 0; k <= placesAhead; k++) {
                if (k < placesAhead && (stalksAhead >> k & 1) == 0) {
                    size++;
                    continue;
                }
                if (size > 0) {
                    int room = PLACES - state.length[row];
                    int v = rule.takesTold(state, one, size, runs, state.length[row]);
                    int taken = Math.max(wanted(state, one, size, v), -room);
                    noteTaken(state, one, row, taken);
                    together += taken;
                    place += size - taken;
                    size = 0;
                }
                if (k < placesAhead) {
                    stalks |= 1 << place;
                    place++;
                }
            }
            state.stalks[row] = stalks;
            return together;
        }

        /** The length and the apron change at once: the next run is told as all is then. */
        private void noteTaken(State state, int one, int row, int taken) {
            state.length[row] -= taken;
            state.apron[one] = bounded(state.apron[one] + taken, 0, MOST_APRON);
            if (runs < RUNS) {
                takenOfRun[runs] = taken;
                runs++;
            }
        }

        /** All glean a row in an order: how much that one has taken. */
        int allGo(State state, int row, Order order, int one) {
            int taken = 0;
            for (int i = 0; i < order.size; i++) {
                int who = order.at[i];
                int his = goAlong(state, who, row);
                if (who == one) {
                    taken = his;
                }
            }
            return taken;
        }

        // What one keeps hangs on no other one, nor on a row, so each may become so at once.
        void passNight(State state) {
            for (int one = 0; one < state.crew; one++) {
                state.apron[one] = kept(state, one);
            }
            for (int row = 0; row < ROWS; row++) {
                int length = state.length[row] + rule.shakesTold(state, row);
                state.length[row] = Math.min(PLACES, length);
            }
            state.night++;
        }
    }

    /** The texts there are, and what the one that is the rule of a state tells. */
    private static final class Rule {
        private final Text[] texts = new Text[TEXTS];
        private final int[] name = new int[NAMES];
        private final int[] stack = new int[TAPE_SIZE];
        int count;

        Rule() {
            for (int i = 0; i < TEXTS; i++) {
                texts[i] = new Text();
            }
            Text plain = texts[0];
            plain.adds(GAP);
            plain.endsPart(TAKES);
            plain.adds(FIRST_NUMBER + 50);
            plain.endsPart(KEEPS);
            plain.adds(FIRST_NUMBER);
            plain.endsPart(SHAKES);
            count = 1;
        }

        int keepsText(Text draft) {
            if (count >= TEXTS) {
                return FULL;
            }
            texts[count].becomes(draft);
            count++;
            return count - 1;
        }

        int takesTold(State state, int one, int g, int nth, int length) {
            namesGleaner(state, one);
            name[GAP] = g;
            name[NTH] = nth;
            name[ROW] = length;
            return bounded(worth(state.rule, TAKES), 0, 99);
        }

        int keepsTold(State state, int one) {
            namesGleaner(state, one);
            name[GAP] = 0;
            name[NTH] = 0;
            name[ROW] = 0;
            return bounded(worth(state.rule, KEEPS), 0, 100);
        }

        int shakesTold(State state, int row) {
            name[GAP] = state.left(row);
            name[NTH] = 0;
            name[NUMBER] = 0;
            name[NIGHT] = state.night;
            name[APRON] = 0;
            name[ROW] = row;
            return bounded(worth(state.rule, SHAKES), 0, 9);
        }

        private void namesGleaner(State state, int one) {
            name[NUMBER] = state.number[one];
            name[NIGHT] = state.night;
            name[APRON] = state.apron[one];
        }

        private int worth(int text, int part) {
            if (text < 0 || text >= count || part < 0 || part >= PARTS) {
                return 0;
            }
            int[] code = texts[text].code;
            int end = texts[text].end[part];
            int top = 0;
            for (int i = part == 0 ? 0 : texts[text].end[part - 1]; i < end; i++) {
                int next = code[i];
                boolean isName = next >= 0 && next < NAMES;
                if ((isName || next >= FIRST_NUMBER) && top < TAPE_SIZE) {
                    stack[top] = isName ? name[next] : next - FIRST_NUMBER;
                    top++;
                } else if ((next == NEGATED || next == DENIED) && top >= 1) {
                    stack[top - 1] = ofOne(next, stack[top - 1]);
                } else if (next >= EITHER && next <= TIMES && top >= 2) {
                    top--;
                    stack[top - 1] = ofTwo(next, stack[top - 1], stack[top]);
                }
            }
            return stack[0];
        }

        private static int ofOne(int code, int a) {
            return code == NEGATED ? -a : a == 0 ? 1 : 0;
        }

        private static int ofTwo(int code, int a, int b) {
            switch (code) {
                case EITHER:
                    return a != 0 || b != 0 ? 1 : 0;
                case BOTH:
                    return a != 0 && b != 0 ? 1 : 0;
                case LESS:
                    return a < b ? 1 : 0;
                case SAME:
                    return a == b ? 1 : 0;
                case PLUS:
                    return a + b;
                case MINUS:
                    return a - b;
                default:
                    return a * b;
            }
        }
    }

    /** A text once read: its parts' codes, each operation behind what it is done to. */
    private static final class Text {
        final int[] code = new int[TAPE_SIZE];
        final int[] end = new int[PARTS];
        private int size;

        void startsAnew() {
            size = 0;
        }

        void adds(int itsCode) {
            if (size < TAPE_SIZE) {
                code[size] = itsCode;
                size++;
            }
        }

        void endsPart(int part) {
            if (isWithin(part, 0, PARTS - 1)) {
                end[part] = size;
            }
        }

        void becomes(Text other) {
            System.arraycopy(other.code, 0, code, 0, TAPE_SIZE);
            System.arraycopy(other.end, 0, end, 0, PARTS);
            size = other.size;
        }
    }

    /** The tape, and how a text is read from it, one token ahead. */
    private static final class Tape {
        private final int[] bytes = new int[TAPE_SIZE];
        int size;
        final Text draft = new Text();
        private int token;
        private int value;
        private int place;
        private int behind;
        private int open;
        private int fault;

        boolean grows(int letter) {
            if (size >= TAPE_SIZE) {
                return false;
            }
            bytes[size] = letter;
            size++;
            return true;
        }

        /** The draft is the text then: NONE, or the place of the fault. */
        int readWhole() {
            draft.startsAnew();
            open = 0;
            fault = NONE;
            behind = 0;
            advance();
            for (int part = 0; part < PARTS; part++) {
                expect(FIRST_KEY + part);
                readEither();
                expect(';');
                draft.endsPart(part);
            }
            expect(AT_END);
            return fault;
        }

        private void readEither() {
            readBoth();
            for (int i = 0; i < TAPE_SIZE && token == KEY_OR; i++) {
                advance();
                readBoth();
                draft.adds(EITHER);
            }
        }

        private void readBoth() {
            readDenied();
            for (int i = 0; i < TAPE_SIZE && token == KEY_AND; i++) {
                advance();
                readDenied();
                draft.adds(BOTH);
            }
        }

        private void readDenied() {
            if (token == KEY_NOT) {
                if (opens()) {
                    readDenied();
                    draft.adds(DENIED);
                    open--;
                }
                return;
            }
            readSum();
            if (token == '<' || token == '=') {
                int code = token == '<' ? LESS : SAME;
                advance();
                readSum();
                draft.adds(code);
            }
        }

        private void readSum() {
            readTerm();
            for (int i = 0; i < TAPE_SIZE && (token == '+' || token == '-'); i++) {
                int code = token == '+' ? PLUS : MINUS;
                advance();
                readTerm();
                draft.adds(code);
            }
        }

        private void readTerm() {
            readOne();
            for (int i = 0; i < TAPE_SIZE && token == '*'; i++) {
                advance();
                readOne();
                draft.adds(TIMES);
            }
        }

        private void readOne() {
            switch (token) {
                case A_NUMBER:
                    draft.adds(FIRST_NUMBER + value);
                    advance();
                    break;
                case A_NAME:
                    draft.adds(value);
                    advance();
                    break;
                case '-':
                    if (opens()) {
                        readOne();
                        draft.adds(NEGATED);
                        open--;
                    }
                    break;
                case '(':
                    if (opens()) {
                        readEither();
                        expect(')');
                        open--;
                    }
                    break;
                default:
                    fail();
                    break;
            }
        }

        /** Goes behind a token that stays open; this also keeps the reading from going too deep. */
        private boolean opens() {
            if (open >= MOST_OPEN) {
                fail();
                return false;
            }
            open++;
            advance();
            return true;
        }

        private void expect(int due) {
            if (token == due) {
                advance();
            } else {
                fail();
            }
        }

        // A wrong token, which nothing goes behind, stops all that would still read on.
        private void fail() {
            if (fault == NONE) {
                fault = place;
            }
            token = WRONG;
        }

        private void advance() {
            if (fault != NONE) {
                return;
            }
            place = behind;
            while (place < size && (bytes[place] == ' ' || bytes[place] == '\n')) {
                place++;
            }
            if (place >= size) {
                behind = size;
                token = AT_END;
            } else if (isLetter(bytes[place])) {
                readWord();
            } else if (isDigit(bytes[place])) {
                readNumber();
            } else {
                behind = place + 1;
                token = isSign(bytes[place]) ? bytes[place] : WRONG;
            }
        }

        private void readWord() {
            behind = place;
            while (behind < size && isLetter(bytes[behind])) {
                behind++;
            }
            token = WRONG;
            for (int i = 0; i < WORDS; i++) {
                if (stands(word(i))) {
                    token = i < NAMES ? A_NAME : FIRST_KEY + i - NAMES;
                    value = i;
                }
            }
        }

        private boolean stands(String word) {
            if (word.length() != behind - place) {
                return false;
            }
            for (int i = 0; i < word.length() && place + i < size; i++) {
                if (bytes[place + i] != word.charAt(i)) {
                    return false;
                }
            }
            return true;
        }

        private void readNumber() {
            behind = place;
            value = 0;
            while (behind < size && isDigit(bytes[behind])) {
                value = value * 10 + bytes[behind] - '0';
                behind++;
            }
            token = behind - place > MOST_DIGITS ? WRONG : A_NUMBER;
        }

        private static boolean isLetter(int letter) {
            return letter >= 'a' && letter <= 'z';
        }

        private static boolean isDigit(int letter) {
            return letter >= '0' && letter <= '9';
        }

        private static boolean isSign(int letter) {
            switch (letter) {
                case '(':
                case ')':
                case ';':
                case '+':
                case '-':
                case '*':
                case '<':
                case '=':
                    return true;
                default:
                    return false;
            }
        }

        /** The names by their codes, then the keys by their tokens. */
        private static String word(int i) {
            switch (i) {
                case GAP:
                    return "gap";
                case NTH:
                    return "nth";
                case NUMBER:
                    return "number";
                case NIGHT:
                    return "night";
                case APRON:
                    return "apron";
                case ROW:
                    return "row";
                case NAMES + TAKES:
                    return "takes";
                case NAMES + KEEPS:
                    return "keeps";
                case NAMES + SHAKES:
                    return "shakes";
                case NAMES + KEY_OR - FIRST_KEY:
                    return "or";
                case NAMES + KEY_AND - FIRST_KEY:
                    return "and";
                default:
                    return "not";
            }
        }
    }

    /** A row of numbers of a sort, or missing. */
    private static final class Sheet {
        final int[] item = new int[SHEET_SIZE];
        int sort = NONE;
        int size;

        boolean isMissing() {
            return sort == NONE;
        }

        void becomes(int itsSort, int n) {
            sort = itsSort;
            size = bounded(n, 0, SHEET_SIZE);
            Arrays.fill(item, 0);
        }

        boolean hasItems(int from, int n) {
            return n >= 0 && from >= 0 && from <= size - n;
        }

        boolean puts(int i, int v) {
            if (!hasItems(i, 1)) {
                return false;
            }
            item[i] = sort == 0 ? (byte) v : sort == 1 ? (short) v : v;
            return true;
        }
    }
}
