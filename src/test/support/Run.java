import java.lang.reflect.Method;
import java.util.ArrayList;
import java.util.Arrays;
import java.util.List;

/** One run of calls on a new object. The calls are kept, so that twins can be made by the same calls. */
final class Run {
    private static final int MOST_CALLS = 512;

    private record Call(String name, int[] with) {
        @Override
        public String toString() {
            return name + Arrays.toString(with).replace('[', '(').replace(']', ')');
        }
    }

    private final GleanersForGaps x = new GleanersForGaps();
    private final List<Call> calls = new ArrayList<>();

    /** What the call answers. */
    long answer(String name, int... with) {
        Call call = new Call(name, with);
        calls.add(call);
        if (calls.size() > MOST_CALLS) {
            throw new IllegalStateException("an object is used for at most 512 calls");
        }
        return of(x, call);
    }

    private static long of(GleanersForGaps x, Call call) {
        Class<?>[] types = new Class<?>[call.with.length];
        Object[] values = new Object[call.with.length];
        for (int i = 0; i < values.length; i++) {
            types[i] = int.class;
            values[i] = call.with[i];
        }
        try {
            Method method = GleanersForGaps.class.getMethod(call.name, types);
            return ((Number) method.invoke(x, values)).longValue();
        } catch (ReflectiveOperationException e) {
            throw new IllegalStateException(call + " after " + e.getCause(), e);
        }
    }

    void due(long want, String name, int... with) {
        Checks.due(new Call(name, with).toString(), answer(name, with), want);
    }

    /** The call is refused by that number, and changes nothing. */
    void refused(long want, String name, int... with) {
        still(want, name, with);
    }

    /** The call answers so, and changes nothing: of two twins, with and without it, all later calls answer alike. */
    void still(long want, String name, int... with) {
        Call call = new Call(name, with);
        Run without = twin();
        Run behind = twin();
        Checks.due(call.toString(), behind.answer(name, with), want);
        List<String> due = without.allThatCanBeSeen();
        List<String> got = behind.allThatCanBeSeen();
        if (!due.equals(got)) {
            for (int i = 0; i < due.size() && i < got.size(); i++) {
                if (!due.get(i).equals(got.get(i))) {
                    Checks.fail("behind " + call + " " + got.get(i) + ", without it " + due.get(i));
                    return;
                }
            }
            Checks.fail("behind " + call + " other calls are asked");
        }
    }

    /** All that can be seen of this object and of the other one is alike. */
    void dueLike(String what, Run other) {
        Checks.due(what, twin().allThatCanBeSeen().equals(other.twin().allThatCanBeSeen()) ? 1 : 0, 1);
    }

    private Run twin() {
        Run twin = new Run();
        for (Call call : calls) {
            twin.answer(call.name, call.with);
        }
        return twin;
    }

    // ---- all that can be seen; the object is of no use then

    private long seen(List<String> all, String name, int... with) {
        long answer = answer(name, with);
        all.add(new Call(name, with) + " answers " + answer);
        return answer;
    }

    private List<String> allThatCanBeSeen() {
        List<String> all = new ArrayList<>();
        seeState(all);
        int[] sorts = new int[4];
        for (int sheet = 0; sheet < 4; sheet++) {
            sorts[sheet] = seeSheet(all, sheet);
        }
        seen(all, "feed", ';');
        seen(all, "text");
        for (int text = 0; text < 6; text++) {
            if (seen(all, "force", text) >= 0) {
                seen(all, "asks", 0, 5);
                seen(all, "told", 0, 4);
                seen(all, "told", 2, 10);
            }
        }
        seen(all, "back");
        seeState(all);
        for (int sheet = 0; sheet < 4; sheet++) {
            seen(all, "back");
            long ahead = seen(all, "count", 0);
            seen(all, "gleaners", sheet, sorts[sheet], 0, 5);
            for (int one = (int) ahead; one < 5; one++) {
                seen(all, "told", one, 3);
                seen(all, "told", one, 1);
            }
        }
        return all;
    }

    private void seeState(List<String> all) {
        for (int what = 0; what < 6; what++) {
            seen(all, "count", what);
        }
        for (int what = 1; what < 5; what++) {
            for (int one = 0; one < 5; one++) {
                seen(all, "told", one, what);
            }
        }
        for (int what = 5; what < 11; what++) {
            for (int row = 0; row < 4; row++) {
                seen(all, "told", row, what);
            }
        }
    }

    /** Its sort (0, if it is missing), and how many items it has, by copies of it onto itself. */
    private int seeSheet(List<String> all, int sheet) {
        int itsSort = 0;
        for (int sort = 0; sort < 3; sort++) {
            itsSort = seen(all, "gleaners", sheet, sort, 0, 0) == 0 ? sort : itsSort;
        }
        int fits = -1;
        for (int step = 32; step > 0; step /= 2) {
            fits += seen(all, "copy", sheet, 0, sheet, 0, fits + step) >= 0 ? step : 0;
        }
        return itsSort;
    }

    // ---- what is made ready, or looked at

    /** An object with something of everything, and an image of other rows, of another night, of nobody. */
    static Run full() {
        Run x = new Run().row(0, "..#.").row(3, "..").at(7);
        x.due(0, "image");
        x.row(0, "#...#..#.").row(1, ".....").row(2, "##").row(3, "").at(12);
        x.one(3, 4, 50).one(4, 2, 1).one(5, 9, 999);
        x.rule(1, "takes gap-1;keeps 40;shakes 1+row;");
        x.fed("takes 2;keeps 9;shakes 3");
        return x.sheet(0, 0, 1, 2, 3, 4).sheet(1, 1, 5, 9).sheet(2, 2, 2, 0, 0, 1, 5);
    }

    /** A row laid as it looks: # a stalk, . a gap. */
    Run row(int row, String places) {
        int stalks = 0;
        int gaps = 0;
        for (int k = 0; k < places.length(); k++) {
            stalks |= places.charAt(k) == '#' ? 1 << k : 0;
            gaps += places.charAt(k) == '.' ? 1 : 0;
        }
        due(gaps, "lay", row, places.length(), stalks);
        return this;
    }

    void dueRow(int row, String places) {
        StringBuilder got = new StringBuilder();
        long length = answer("told", row, 5);
        long stalks = answer("told", row, 6);
        for (int k = 0; k < length; k++) {
            got.append((stalks >> k & 1) == 1 ? '#' : '.');
        }
        Checks.due("row " + row + ", due to look " + places + " and looking " + got, places.contentEquals(got) ? 1 : 0, 1);
    }

    Run at(int night) {
        Checks.due("set of the night", answer("set", 0, 0, night) >= 0 ? 1 : 0, 1);
        return this;
    }

    Run one(int kind, int number, int apron) {
        long one = answer("gleaner", kind, number);
        Checks.due("gleaner that comes", one >= 0 ? 1 : 0, 1);
        due(0, "set", 2, (int) one, apron);
        return this;
    }

    Run fed(String letters) {
        for (int i = 0; i < letters.length(); i++) {
            due(i + 1, "feed", letters.charAt(i));
        }
        return this;
    }

    void dueText(long want, String letters) {
        fed(letters).due(want, "text");
    }

    /** A text that becomes the rule; its number is due. */
    Run rule(int number, String letters) {
        dueText(number, letters);
        Checks.due("force", answer("force", number) >= 0 ? 1 : 0, 1);
        return this;
    }

    static Run ruled(String letters) {
        return new Run().rule(1, letters);
    }

    Run sheet(int sheet, int sort, int... items) {
        due(1, "sheet", sheet, sort, items.length);
        for (int i = 0; i < items.length; i++) {
            due(1, "cell", sheet, i, items[i]);
        }
        return this;
    }

    /** How many items a sheet has, and of which sort it is. */
    void dueSheet(int sheet, int sort, int size) {
        due(0, "gleaners", sheet, sort, 0, 0);
        due(size, "copy", sheet, 0, sheet, 0, size);
        due(Checks.OUTSIDE, "copy", sheet, 0, sheet, 0, size + 1);
    }
}
