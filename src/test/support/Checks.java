import java.io.IOException;
import java.lang.reflect.Method;
import java.lang.reflect.Modifier;
import java.nio.file.Files;
import java.nio.file.Path;
import java.util.Arrays;
import java.util.Comparator;
import java.util.TreeSet;

/** What the tests of bounds share: which words of the document they hold, and how many answers were not as due. */
final class Checks {
    static final int NONE = -1, BAD = -2, STATE = -3, FULL = -4;
    static final int NOTHING = -11, OUTSIDE = -12, OTHER = -13, BELOW = -14, NO_ANSWER = -100, NO_BEST = -1000;
    static final long NO = -4611686018427387904L;
    static final int LOW = Integer.MIN_VALUE, HIGH = Integer.MAX_VALUE;

    private static final String DOC = document();
    private static final TreeSet<Integer> named = new TreeSet<>();
    private static String held = "";
    private static int asked = 0;
    private static int wrong = 0;

    private Checks() {
    }

    private static String document() {
        try {
            return Files.readString(Path.of("../shared/DOC.md")).replaceAll("\\s+", " ");
        } catch (IOException e) {
            throw new IllegalStateException("../shared/DOC.md can't be read: run the tests as .ci/run does", e);
        }
    }

    /** Names the promise and the document's words (of the promise, or of the terms) that the next answers hold. */
    static void about(int promise, String words) {
        held = "promise " + promise + ", \"" + words + "\"";
        named.add(promise);
        String terms = part("## Terms", "## Promise 1:");
        String itself = part("## Promise " + promise + ":", promise == 32 ? "## Not promised" : "## Promise " + (promise + 1) + ":");
        if (!terms.contains(words) && !itself.contains(words)) {
            fail("the document has no such words");
        }
    }

    private static String part(String from, String to) {
        return DOC.substring(DOC.indexOf(from), DOC.indexOf(to));
    }

    static void due(String call, long got, long want) {
        asked++;
        if (got != want) {
            fail(call + " answered " + got + ", due is " + want);
        }
    }

    static void fail(String what) {
        wrong++;
        System.out.println(held + ": " + what);
    }

    /** Every method of the tests is a test of its own; together they name all promises from .. to. */
    static void runAll(Class<?> tests, int from, int to) throws ReflectiveOperationException {
        Method[] methods = tests.getDeclaredMethods();
        Arrays.sort(methods, Comparator.comparing(Method::getName));
        int many = 0;
        for (Method m : methods) {
            boolean isTest = Modifier.isStatic(m.getModifiers()) && m.getParameterCount() == 0 && m.getReturnType() == void.class
                && !m.isSynthetic();
            if (isTest) {
                held = "";
                m.setAccessible(true);
                m.invoke(null);
                many++;
                if (held.isEmpty()) {
                    fail(m.getName() + " names no promise");
                }
            }
        }
        held = tests.getName();
        for (int promise = from; promise <= to; promise++) {
            if (!named.contains(promise)) {
                fail("no test names promise " + promise);
            }
        }
        System.out.println(tests.getName() + ": " + many + " tests, " + asked + " answers, " + wrong + " not as due");
        if (wrong != 0) {
            System.exit(1);
        }
    }
}
