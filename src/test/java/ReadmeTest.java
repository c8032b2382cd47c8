import java.io.IOException;
import java.lang.reflect.Method;
import java.lang.reflect.Modifier;
import java.net.URI;
import java.net.URL;
import java.net.URLClassLoader;
import java.nio.file.Files;
import java.nio.file.Path;
import java.util.Comparator;
import java.util.List;
import java.util.TreeSet;
import java.util.regex.Matcher;
import java.util.regex.Pattern;
import java.util.stream.Stream;
import javax.tools.JavaCompiler;
import javax.tools.JavaFileObject;
import javax.tools.SimpleJavaFileObject;
import javax.tools.ToolProvider;

/**
 * Holds the calls that README.md shows, as they stand there: its blocks of Java, one behind the other, are compiled and
 * run, and each call that stands with an answer behind it must answer so. Every call of the class must be shown.
 */
public final class ReadmeTest {
    private static final Pattern BLOCK = Pattern.compile("(?ms)^```java\\n(.*?)^```$");
    private static final Pattern ANSWERED = Pattern.compile("((?:int|long) \\w+ = )?(x\\.(\\w+)\\(.*\\)); +// (-?\\d+|[A-Z]+)\\b.*");
    private static final Pattern CALL = Pattern.compile("\\bx\\.(\\w+)\\(");

    private static int asked = 0;
    private static int wrong = 0;

    /** Called by the lines that are made of README.md. */
    public static void due(String call, long got, long want) {
        asked++;
        if (got != want) {
            fail(call + " answered " + got + ", README.md says " + want);
        }
    }

    private static void fail(String what) {
        wrong++;
        System.out.println("ReadmeTest: " + what);
    }

    public static void main(String[] args) throws Exception {
        run(source(Files.readString(Path.of("README.md"))));
        System.out.println("ReadmeTest: " + asked + " answers, " + wrong + " not as README.md says");
        if (wrong != 0) {
            System.exit(1);
        }
    }

    /** The blocks as a class of their own; a line with an answer behind it also asks for that answer. */
    private static String source(String readme) {
        StringBuilder lines = new StringBuilder();
        TreeSet<String> shown = new TreeSet<>();
        Matcher block = BLOCK.matcher(readme);
        while (block.find()) {
            for (String line : block.group(1).split("\n")) {
                Matcher answered = ANSWERED.matcher(line);
                if (answered.matches()) {
                    lines.append(asking(answered));
                    shown.add(answered.group(3));
                } else {
                    lines.append(line).append('\n');
                    mustStandInLoop(line, shown);
                }
            }
        }
        for (Method m : GleanersForGaps.class.getDeclaredMethods()) {
            if (Modifier.isPublic(m.getModifiers()) && !shown.contains(m.getName())) {
                fail("README.md shows no call of " + m.getName());
            }
        }
        return "final class Shown { static void all() {\n" + lines + "} }\n";
    }

    private static String asking(Matcher answered) {
        String call = answered.group(2);
        String answer = answered.group(4);
        String due = Character.isLetter(answer.charAt(0)) ? "GleanersForGaps." + answer : answer;
        String told = call.replace("\\", "\\\\").replace("\"", "\\\"");
        boolean isKept = answered.group(1) != null;
        String kept = isKept ? answered.group(1) + call + ";\n" : "";
        String name = isKept ? answered.group(1).split(" ")[1] : call;
        return kept + "ReadmeTest.due(\"" + told + "\", " + name + ", " + due + ");\n";
    }

    // A call without an answer may only stand further in, where it is asked again and again.
    private static void mustStandInLoop(String line, TreeSet<String> shown) {
        Matcher call = CALL.matcher(line);
        while (call.find()) {
            shown.add(call.group(1));
            if (!line.startsWith(" ")) {
                fail("README.md tells no answer: " + line);
            }
        }
    }

    private static void run(String source) throws Exception {
        Path folder = Files.createTempDirectory("readme");
        try {
            JavaCompiler compiler = ToolProvider.getSystemJavaCompiler();
            List<String> options = List.of("-d", folder.toString(), "-cp", System.getProperty("java.class.path"));
            if (!compiler.getTask(null, null, null, options, null, List.of(fileOf(source))).call()) {
                fail("what README.md shows does not compile");
                return;
            }
            URL[] classes = {folder.toUri().toURL()};
            try (URLClassLoader loader = new URLClassLoader(classes, ReadmeTest.class.getClassLoader())) {
                Method all = loader.loadClass("Shown").getDeclaredMethod("all");
                all.setAccessible(true);
                all.invoke(null);
            }
        } finally {
            removeAll(folder);
        }
    }

    private static JavaFileObject fileOf(String source) {
        return new SimpleJavaFileObject(URI.create("string:///Shown.java"), JavaFileObject.Kind.SOURCE) {
            @Override
            public CharSequence getCharContent(boolean ignoreEncodingErrors) {
                return source;
            }
        };
    }

    private static void removeAll(Path folder) throws IOException {
        try (Stream<Path> files = Files.walk(folder)) {
            for (Path file : files.sorted(Comparator.reverseOrder()).toList()) {
                Files.delete(file);
            }
        }
    }
}
