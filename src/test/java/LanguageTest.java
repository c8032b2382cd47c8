import java.lang.reflect.Field;
import java.lang.reflect.Method;
import java.lang.reflect.Modifier;
import java.nio.file.Files;
import java.nio.file.Path;
import java.util.ArrayList;
import java.util.Arrays;
import java.util.List;
import java.util.Set;
import java.util.TreeSet;
import java.util.regex.Matcher;
import java.util.regex.Pattern;

/** The rules of LANGUAGE.md that can be seen from the class and from the lines of its file. */
public final class LanguageTest {
    private static final String FACE = "lay(int,int,int)int set(int,int,int)int gleaner(int,int)int told(int,int)int"
        + " run(int,int)int asks(int,int)int feed(int)int text()int force(int)int glean(int,int)int go(int,int)int night()int"
        + " tries(int,int,int)int nights(int,int,int,int)int first(int,int,int)int best(int,int)int rowFor(int,int)int"
        + " longest()int close(int)long tells(int,int,int,int)int film(int,int,int)int drawn(int,int)int"
        + " chance(int,int,int,int,int)long image()int back()int count(int)int sheet(int,int,int)int cell(int,int,int)int"
        + " copy(int,int,int,int,int)int gleaners(int,int,int,int)int taken(int,int)int";
    private static final Set<String> CONSTANTS = Set.of("NONE", "BAD", "STATE", "FULL", "NO");
    private static int wrong = 0;

    private static void must(boolean so, String what) {
        if (!so) {
            wrong++;
            System.out.println("LanguageTest: " + what);
        }
    }

    public static void main(String[] args) throws Exception {
        face();
        for (Class<?> inside : GleanersForGaps.class.getDeclaredClasses()) {
            must(Modifier.isStatic(inside.getModifiers()) && !Modifier.isPublic(inside.getModifiers()), "rule 1: " + inside);
            members(inside);
        }
        members(GleanersForGaps.class);
        must(GleanersForGaps.class.getDeclaredClasses().length <= 12, "rule 11: classes");
        lines(Files.readAllLines(Path.of("src/main/java/GleanersForGaps.java")));
        System.out.println("LanguageTest: " + wrong + " wrong");
        if (wrong != 0) {
            System.exit(1);
        }
    }

    private static void face() throws Exception {
        Class<?> face = GleanersForGaps.class;
        must(Modifier.isPublic(face.getModifiers()) && Modifier.isFinal(face.getModifiers()), "rule 1: public, final");
        must(face.getDeclaredConstructors().length == 1 && Modifier.isPublic(face.getConstructor().getModifiers()), "rule 1: constructor");
        Set<String> due = new TreeSet<>(Arrays.asList(FACE.split(" ")));
        Set<String> names = new TreeSet<>();
        for (Method m : face.getDeclaredMethods()) {
            if (Modifier.isPublic(m.getModifiers())) {
                List<String> types = new ArrayList<>();
                for (Class<?> t : m.getParameterTypes()) {
                    types.add(t.getName());
                }
                must(due.remove(m.getName() + "(" + String.join(",", types) + ")" + m.getReturnType()), "rule 1: " + m);
                must(!Modifier.isStatic(m.getModifiers()), "rule 1: static " + m);
                names.add(m.getName());
            } else {
                must(Modifier.isPrivate(m.getModifiers()), "rule 1: " + m);
            }
        }
        must(due.isEmpty(), "the face lacks " + due);
        for (Field f : face.getDeclaredFields()) {
            int m = f.getModifiers();
            must(CONSTANTS.contains(f.getName()) ? Modifier.isPublic(m) && Modifier.isStatic(m) && Modifier.isFinal(m)
                : Modifier.isPrivate(m), "rule 1: " + f);
        }
        List<Class<?>> all = new ArrayList<>(List.of(face.getDeclaredClasses()));
        all.add(face);
        for (Class<?> c : all) {
            for (Method m : c.getDeclaredMethods()) {
                must(Modifier.isPublic(m.getModifiers()) || !names.contains(m.getName()), "rule 1: the name of " + m);
            }
        }
    }

    private static void members(Class<?> c) {
        int fields = 0;
        for (Field f : c.getDeclaredFields()) {
            boolean isStatic = Modifier.isStatic(f.getModifiers());
            must(!isStatic || Modifier.isFinal(f.getModifiers()), "rule 5: " + f);
            fields += isStatic ? 0 : 1;
        }
        must(fields <= 20, "rule 11: fields of " + c);
        for (Method m : c.getDeclaredMethods()) {
            must(m.getParameterCount() <= 7, "rule 11: " + m);
        }
    }

    private static void lines(List<String> lines) {
        Pattern forbidden = Pattern.compile("\\b(throw|throws|try|catch|finally|synchronized|assert|instanceof|float|double|package"
            + "|Object|equals|hashCode|toString|random|Thread|nanoTime|currentTimeMillis|System\\.(out|err|in|exit)|\\w+Exact)\\b|->|::");
        int methodFrom = 0;
        for (int i = 0; i < lines.size(); i++) {
            String line = lines.get(i);
            must(line.chars().allMatch(c -> c < 127), "sign beside 1 .. 127 in line " + (i + 1));
            if (line.strip().startsWith("//") || line.strip().startsWith("/*")) {
                continue;
            }
            Matcher m = forbidden.matcher(line);
            must(!m.find(), "line " + (i + 1) + ": " + line);
            must(!line.startsWith("import") || line.equals("import java.util.Arrays;"), "rule 4: " + line);
            must(!line.startsWith("static {") && !line.strip().equals("static {"), "rule 5: line " + (i + 1));
            if (line.matches(" {4,8}[a-z].*\\) \\{")) {
                methodFrom = i;
            }
            if (line.matches(" {4}( {4})?\\}")) {
                must(i - methodFrom < 60, "rule 11: a long method at line " + (methodFrom + 1));
            }
        }
    }
}
