import java.util.ArrayList;
import java.util.List;

/**
 * Holds GleanersForGaps against a second writing of the document, in other terms (rows as strings, texts as trees,
 * exceptions), over long runs of calls that a fixed row of numbers chooses.
 */
public final class ModelTest {
    private static final int RUNS = 400, CALLS = 512;
    private static final long NO = -4611686018427387904L;
    private static long z = 20261118;

    private static int upTo(int n) {
        z = z * 6364136223846793005L + 1442695040888963407L;
        return (int) ((z >>> 33) % n);
    }

    /** Mostly within low .. high, at times one beside, seldom far away. */
    private static int about(int low, int high) {
        int chance = upTo(40);
        if (chance == 0) {
            return low - 1;
        }
        if (chance == 1) {
            return high + 1;
        }
        if (chance == 2) {
            int[] far = {Integer.MIN_VALUE, Integer.MAX_VALUE, -1, 1 << 24, -100, 1000};
            return far[upTo(far.length)];
        }
        return low + upTo(high - low + 1);
    }

    public static void main(String[] args) {
        int wrong = 0;
        int asked = 0;
        for (int run = 0; run < RUNS && wrong == 0; run++) {
            List<String> log = new ArrayList<>();
            GleanersForGaps program = new GleanersForGaps();
            Model model = new Model();
            String pending = "";
            for (int i = 0; i < CALLS; i++) {
                String name;
                int[] a;
                if (!pending.isEmpty()) {
                    name = "feed";
                    a = new int[] {pending.charAt(0)};
                    pending = pending.substring(1);
                    if (pending.isEmpty()) {
                        name = "feed!";
                    }
                } else if (i < 40 && upTo(6) == 0 || upTo(100) == 0) {
                    pending = randomText();
                    i--;
                    continue;
                } else {
                    name = NAMES[i < 12 ? upTo(3) : upTo(NAMES.length)];
                    a = arguments(name, model);
                }
                boolean behind = name.equals("feed!");
                name = behind ? "feed" : name;
                for (int round = 0; round < (behind ? 3 : 1); round++) {
                    if (round == 1) {
                        name = "text";
                        a = new int[0];
                    } else if (round == 2) {
                        name = "force";
                        a = new int[] {model.texts.size() - 1};
                    }
                    long got = answer(program, name, a);
                    long due = model.answer(name, a);
                    asked++;
                    log.add(name + java.util.Arrays.toString(a) + " answered " + got);
                    if (got != due) {
                        wrong++;
                        System.out.println("run " + run + ": " + String.join("\n", log) + ", the model says " + due);
                        break;
                    }
                }
                if (wrong != 0) {
                    break;
                }
            }
        }
        System.out.println(wrong == 0 ? "ModelTest: " + asked + " calls answered as by the model" : "ModelTest: wrong");
        if (wrong != 0) {
            System.exit(1);
        }
    }

    private static final String[] NAMES = {"lay", "gleaner", "set", "told", "run", "asks", "feed", "text", "force",
        "glean", "go", "night", "tries", "nights", "first", "best", "rowFor", "longest", "close", "tells", "film",
        "drawn", "chance", "image", "back", "count", "sheet", "cell", "copy", "gleaners", "taken", "tells", "tells",
        "film", "cell", "gleaner", "lay", "lay", "lay", "lay", "set", "told", "nights", "best", "first", "asks"};

    private static int[] arguments(String name, Model m) {
        int one = about(0, Math.max(0, m.crew.size() - 1));
        int row = about(0, 3);
        int sheet = about(0, 3);
        switch (name) {
            case "lay": {
                int length = upTo(4) == 0 ? about(0, 24) : upTo(25);
                int bits = upTo(2) == 0 ? upTo(1 << 24) : upTo(1 << 24) & upTo(1 << 24);
                return new int[] {row, length, upTo(20) == 0 ? bits : bits & ((1 << Math.max(0, Math.min(24, length))) - 1)};
            }
            case "set": {
                int what = about(0, 2);
                return new int[] {what, one, what == 1 ? about(0, 9) : upTo(3) == 0 ? about(0, 999) : upTo(20)};
            }
            case "gleaner": return new int[] {about(0, 5), about(0, 9)};
            case "told": return upTo(2) == 0 ? new int[] {one, about(0, 4)} : new int[] {row, about(5, 10)};
            case "run": return new int[] {row, about(0, 4)};
            case "asks": return new int[] {one, about(1, 24)};
            case "feed": return new int[] {upTo(3) == 0 ? about(0, 255) : " \n;(".charAt(upTo(4))};
            case "force": return new int[] {about(0, m.texts.size() - 1)};
            case "glean": return new int[] {one, row};
            case "go": return new int[] {row, randomOrder(m.crew.size())};
            case "tries": return new int[] {one, row, about(0, 3)};
            case "nights": return new int[] {one, row, about(0, 20), about(0, 1)};
            case "first": return new int[] {one, row, about(0, 1)};
            case "best": return new int[] {row, about(0, 4)};
            case "rowFor": return new int[] {one, about(0, 1)};
            case "close": return new int[] {about(0, 1)};
            case "tells": return new int[] {sheet, one, row, about(0, 7)};
            case "film": return new int[] {sheet, one, row};
            case "drawn": return new int[] {upTo(2) == 0 ? upTo(100) : (int) z, one};
            case "chance": return new int[] {upTo(9) == 0 ? Integer.MAX_VALUE - 3 : upTo(99999), about(1, 20), one, about(0, 24), about(0, 1)};
            case "count": return new int[] {about(0, 5)};
            case "sheet": return new int[] {sheet, about(-1, 2), upTo(3) == 0 ? about(0, 40) : upTo(6)};
            case "cell": return new int[] {sheet, about(0, 4), upTo(3) == 0 ? (int) (z >>> 20) : upTo(8) - 2};
            case "copy": return new int[] {sheet, about(0, 4), about(0, 3), about(0, 4), about(0, 4)};
            case "gleaners": return new int[] {sheet, about(0, 2), about(0, 4), about(0, 5)};
            case "taken": return new int[] {one, about(0, 5)};
            default: return new int[0];
        }
    }

    private static int randomOrder(int n) {
        List<Integer> digits = new ArrayList<>();
        for (int i = 1; i <= n; i++) {
            digits.add(upTo(digits.size() + 1), i);
        }
        int order = 0;
        for (int d : digits) {
            order = order * 10 + d;
        }
        return upTo(15) == 0 ? order + upTo(12) - 6 : order;
    }

    private static String randomText() {
        int plain = 2 + upTo(5);
        String text = "takes " + expression(plain) + ";keeps " + expression(plain) + ";shakes " + expression(plain + 1) + ";";
        if (upTo(4) == 0) {
            int at = upTo(text.length());
            String[] junk = {" ", "\n", "(", ")", "not ", "-", "+", "A", "12345", "gapp", "takes", ";", "<", "", "\u00e9", "0007", "1 2"};
            text = text.substring(0, at) + junk[upTo(junk.length)] + text.substring(at + (upTo(2) == 0 && at < text.length() ? 1 : 0));
        }
        return text.length() > 150 ? text.substring(0, 150) : text;
    }

    private static String expression(int depth) {
        String[] names = {"gap", "nth", "number", "night", "apron", "row"};
        switch (depth > 7 ? upTo(4) : upTo(14)) {
            case 0: case 1: case 2: return names[upTo(6)];
            case 3: return "" + (upTo(5) == 0 ? upTo(10000) : upTo(12));
            case 4: return "-" + expression(depth + 2);
            case 5: return "(" + expression(depth + 1) + ")";
            case 6: return "not " + expression(depth + 2);
            case 7: return expression(depth + 2) + " or " + expression(depth + 2);
            case 8: return expression(depth + 2) + " and " + expression(depth + 2);
            case 9: return expression(depth + 3) + "<" + expression(depth + 3);
            case 10: return expression(depth + 3) + "=" + expression(depth + 3);
            case 11: return expression(depth + 1) + "+" + expression(depth + 1);
            case 12: return expression(depth + 1) + "-" + expression(depth + 1);
            default: return expression(depth + 1) + "*" + expression(depth + 1);
        }
    }

    private static long answer(GleanersForGaps x, String name, int[] a) {
        switch (name) {
            case "lay": return x.lay(a[0], a[1], a[2]);
            case "set": return x.set(a[0], a[1], a[2]);
            case "gleaner": return x.gleaner(a[0], a[1]);
            case "told": return x.told(a[0], a[1]);
            case "run": return x.run(a[0], a[1]);
            case "asks": return x.asks(a[0], a[1]);
            case "feed": return x.feed(a[0]);
            case "text": return x.text();
            case "force": return x.force(a[0]);
            case "glean": return x.glean(a[0], a[1]);
            case "go": return x.go(a[0], a[1]);
            case "night": return x.night();
            case "tries": return x.tries(a[0], a[1], a[2]);
            case "nights": return x.nights(a[0], a[1], a[2], a[3]);
            case "first": return x.first(a[0], a[1], a[2]);
            case "best": return x.best(a[0], a[1]);
            case "rowFor": return x.rowFor(a[0], a[1]);
            case "longest": return x.longest();
            case "close": return x.close(a[0]);
            case "tells": return x.tells(a[0], a[1], a[2], a[3]);
            case "film": return x.film(a[0], a[1], a[2]);
            case "drawn": return x.drawn(a[0], a[1]);
            case "chance": return x.chance(a[0], a[1], a[2], a[3], a[4]);
            case "image": return x.image();
            case "back": return x.back();
            case "count": return x.count(a[0]);
            case "sheet": return x.sheet(a[0], a[1], a[2]);
            case "cell": return x.cell(a[0], a[1], a[2]);
            case "copy": return x.copy(a[0], a[1], a[2], a[3], a[4]);
            case "gleaners": return x.gleaners(a[0], a[1], a[2], a[3]);
            case "taken": return x.taken(a[0], a[1]);
            default: throw new IllegalStateException(name);
        }
    }

    // ---- the second writing

    private static final class Fault extends RuntimeException {
        final int place;
        Fault(int place) {
            this.place = place;
        }
    }

    private interface Node {
        int worth(int[] names);
    }

    private static final class Token {
        final String word;
        final int place;
        Token(String word, int place) {
            this.word = word;
            this.place = place;
        }
    }

    /** Tokens by a regular expression, nodes as closures, a fault as an exception. */
    private static final class Parser {
        static final List<String> NAMES = List.of("gap", "nth", "number", "night", "apron", "row");
        final List<Token> tokens = new ArrayList<>();
        int at;
        int open;

        Parser(String tape) {
            java.util.regex.Matcher m = java.util.regex.Pattern.compile("[ \n]+|[a-z]+|[0-9]+|(?s:.)").matcher(tape);
            while (m.find()) {
                if (!m.group().isBlank() || m.group().charAt(0) != ' ' && m.group().charAt(0) != '\n') {
                    tokens.add(new Token(m.group(), m.start()));
                }
            }
            tokens.add(new Token("", tape.length()));
        }

        String ahead() {
            return tokens.get(at).word;
        }

        Fault fault() {
            return new Fault(tokens.get(at).place);
        }

        boolean takes(String word) {
            if (ahead().equals(word)) {
                at++;
                return true;
            }
            return false;
        }

        void must(String word) {
            if (!takes(word)) {
                throw fault();
            }
        }

        List<Node> whole() {
            List<Node> parts = new ArrayList<>();
            for (String key : List.of("takes", "keeps", "shakes")) {
                must(key);
                parts.add(e());
                must(";");
            }
            if (at != tokens.size() - 1) {
                throw fault();
            }
            return parts;
        }

        Node e() {
            Node a = and();
            while (takes("or")) {
                Node l = a;
                Node r = and();
                a = n -> l.worth(n) != 0 | r.worth(n) != 0 ? 1 : 0;
            }
            return a;
        }

        Node and() {
            Node a = not();
            while (takes("and")) {
                Node l = a;
                Node r = not();
                a = n -> l.worth(n) != 0 & r.worth(n) != 0 ? 1 : 0;
            }
            return a;
        }

        void enter() {
            if (open == 5) {
                throw fault();
            }
            open++;
            at++;
        }

        Node not() {
            if (ahead().equals("not")) {
                enter();
                Node a = not();
                open--;
                return n -> a.worth(n) == 0 ? 1 : 0;
            }
            Node l = sum();
            if (takes("<")) {
                Node r = sum();
                return n -> l.worth(n) < r.worth(n) ? 1 : 0;
            }
            if (takes("=")) {
                Node r = sum();
                return n -> l.worth(n) == r.worth(n) ? 1 : 0;
            }
            return l;
        }

        Node sum() {
            Node a = term();
            while (true) {
                Node l = a;
                if (takes("+")) {
                    Node r = term();
                    a = n -> l.worth(n) + r.worth(n);
                } else if (takes("-")) {
                    Node r = term();
                    a = n -> l.worth(n) - r.worth(n);
                } else {
                    return a;
                }
            }
        }

        Node term() {
            Node a = one();
            while (takes("*")) {
                Node l = a;
                Node r = one();
                a = n -> l.worth(n) * r.worth(n);
            }
            return a;
        }

        Node one() {
            String word = ahead();
            if (word.equals("-")) {
                enter();
                Node a = one();
                open--;
                return n -> -a.worth(n);
            }
            if (word.equals("(")) {
                enter();
                Node a = e();
                must(")");
                open--;
                return a;
            }
            if (NAMES.contains(word)) {
                at++;
                int i = NAMES.indexOf(word);
                return n -> n[i];
            }
            if (word.matches("[0-9]{1,4}")) {
                at++;
                int v = Integer.parseInt(word);
                return n -> v;
            }
            throw fault();
        }
    }

    private static class Gleaner {
        int kind, number, apron;
        Gleaner(int kind, int number, int apron) {
            this.kind = kind;
            this.number = number;
            this.apron = apron;
        }
    }

    private static final class World {
        String[] rows = {"", "", "", ""};
        List<Gleaner> crew = new ArrayList<>();
        int night, rule;
        List<List<Node>> texts;

        World twin() {
            World w = new World();
            w.rows = rows.clone();
            for (Gleaner g : crew) {
                w.crew.add(new Gleaner(g.kind, g.number, g.apron));
            }
            w.night = night;
            w.rule = rule;
            w.texts = texts;
            return w;
        }

        int told(int part, int most, int... names) {
            return Math.min(most, Math.max(0, texts.get(rule).get(part).worth(names)));
        }

        int asked(int one, int g, int nth, int length) {
            Gleaner w = crew.get(one);
            int v = told(0, 99, g, nth, w.number, night, w.apron, length);
            int t = takes(w.kind, w, g, v);
            return t > g ? g : t;
        }

        int takes(int kind, Gleaner w, int g, int v) {
            switch (kind) {
                case 0: return v;
                case 1: return takes(0, w, g, v) + g % 2;
                case 2: return g;
                case 3: return g == 1 ? 0 : takes(1, w, g, v);
                case 4: return w.apron < w.number ? takes(2, w, g, v) : -w.number;
                default: return takes(0, w, g, v) / 2;
            }
        }

        int keeps(Gleaner w) {
            int v = told(1, 100, 0, 0, w.number, night, w.apron, 0);
            switch (w.kind) {
                case 0: case 1: return (int) ((long) w.apron * v / 100);
                case 2: return w.apron;
                case 3: return Math.max(0, (int) ((long) w.apron * v / 100) - w.number);
                case 4: return w.apron / 2;
                default: return 0;
            }
        }

        int left(int r) {
            return rows[r].replace("#", "").length();
        }

        List<Integer> sizes(int r) {
            List<Integer> sizes = new ArrayList<>();
            for (String run : rows[r].split("#+")) {
                if (!run.isEmpty()) {
                    sizes.add(run.length());
                }
            }
            return sizes;
        }

        List<Integer> glean(int one, int r) {
            List<Integer> taken = new ArrayList<>();
            String ahead = rows[r];
            int length = ahead.length();
            String behind = "";
            java.util.regex.Matcher m = java.util.regex.Pattern.compile("#+|\\.+").matcher(ahead);
            while (m.find()) {
                String part = m.group();
                if (part.charAt(0) == '.') {
                    int t = asked(one, part.length(), taken.size(), length);
                    while (t < 0 && length - t > 24) {
                        t++;
                    }
                    length -= t;
                    Gleaner w = crew.get(one);
                    w.apron = Math.max(0, Math.min(999, w.apron + t));
                    taken.add(t);
                    part = ".".repeat(part.length() - t);
                }
                behind += part;
            }
            rows[r] = behind;
            return taken;
        }

        int gleanSum(int one, int r) {
            int sum = 0;
            for (int t : glean(one, r)) {
                sum += t;
            }
            return sum;
        }

        void pass() {
            int[] kept = new int[crew.size()];
            int[] shaken = new int[4];
            for (int i = 0; i < kept.length; i++) {
                kept[i] = keeps(crew.get(i));
            }
            for (int r = 0; r < 4; r++) {
                shaken[r] = shakes(r);
            }
            for (int i = 0; i < kept.length; i++) {
                crew.get(i).apron = kept[i];
            }
            for (int r = 0; r < 4; r++) {
                rows[r] += ".".repeat(Math.min(shaken[r], 24 - rows[r].length()));
            }
            night++;
        }

        int shakes(int r) {
            return told(2, 9, left(r), 0, 0, night, 0, r);
        }

        int gaps() {
            return left(0) + left(1) + left(2) + left(3);
        }
    }

    private static final class Model {
        World w = new World();
        List<Gleaner> crew = w.crew;
        final List<List<Node>> texts = new ArrayList<>();
        String tape = "";
        World image;
        final int[][] sheets = new int[4][];
        final int[] sorts = new int[4];

        Model() {
            texts.add(new Parser("takes gap ; keeps 50 ; shakes 0 ;").whole());
            w.texts = texts;
        }

        boolean row(int r) {
            return r >= 0 && r < 4;
        }

        boolean one(int o) {
            return o >= 0 && o < w.crew.size();
        }

        boolean in(int v, int a, int b) {
            return a <= v && v <= b;
        }

        long answer(String name, int[] a) {
            long answer = call(name, a);
            crew = w.crew;
            return answer;
        }

        long call(String name, int[] a) {
            switch (name) {
                case "lay": return lay(a[0], a[1], a[2]);
                case "set": return set(a[0], a[1], a[2]);
                case "gleaner": return gleaner(a[0], a[1]);
                case "told": return told(a[0], a[1]);
                case "run": return row(a[0]) && a[1] >= 0 && a[1] < w.sizes(a[0]).size() ? w.sizes(a[0]).get(a[1]) : -2;
                case "asks": return one(a[0]) && in(a[1], 1, 24) ? w.asked(a[0], a[1], 0, 24) : -100;
                case "feed":
                    if (!in(a[0], 0, 255)) {
                        return -2;
                    }
                    if (tape.length() == 160) {
                        return -4;
                    }
                    tape += (char) a[0];
                    return tape.length();
                case "text": return text();
                case "force":
                    if (!in(a[0], 0, texts.size() - 1)) {
                        return -2;
                    }
                    int was = w.rule;
                    w.rule = a[0];
                    return was;
                case "glean": return one(a[0]) && row(a[1]) ? w.gleanSum(a[0], a[1]) : -100;
                case "go":
                    if (!row(a[0]) || !orders(w.crew.size()).contains(a[1])) {
                        return -2;
                    }
                    goAll(w, a[0], a[1], -1);
                    return w.left(a[0]);
                case "night":
                    if (w.night == 999) {
                        return -3;
                    }
                    w.pass();
                    return w.gaps();
                case "tries": return tries(a[0], a[1], a[2]);
                case "nights": return nights(a[0], a[1], a[2], a[3]);
                case "first": return first(a[0], a[1], a[2]);
                case "best": return best(a[0], a[1]);
                case "rowFor": return rowFor(a[0], a[1]);
                case "longest": return longest();
                case "close": return close(a[0]);
                case "tells": return tells(a[0], a[1], a[2], a[3]);
                case "film": return film(a[0], a[1], a[2]);
                case "drawn": return one(a[1]) ? drawn(a[0], a[1]) : -100;
                case "chance": return chance(a[0], a[1], a[2], a[3], a[4]);
                case "image":
                    image = w.twin();
                    return w.crew.size();
                case "back":
                    if (image == null) {
                        return -3;
                    }
                    w = image.twin();
                    return w.crew.size();
                case "count":
                    return in(a[0], 0, 5)
                        ? new int[] {w.crew.size(), w.gaps(), w.night, texts.size(), tape.length(), w.rule}[a[0]] : -2;
                case "sheet": return sheet(a[0], a[1], a[2]);
                case "cell":
                    if (!row(a[0])) {
                        return -2;
                    }
                    if (sheets[a[0]] == null) {
                        return -11;
                    }
                    if (a[1] < 0 || a[1] >= sheets[a[0]].length) {
                        return -12;
                    }
                    sheets[a[0]][a[1]] = sorts[a[0]] == 0 ? (byte) a[2] : sorts[a[0]] == 1 ? (short) a[2] : a[2];
                    return 1;
                case "copy": return copy(a[0], a[1], a[2], a[3], a[4]);
                case "gleaners": return gleaners(a[0], a[1], a[2], a[3]);
                case "taken":
                    if (!in(a[1], 0, 5)) {
                        return -2;
                    }
                    if (!one(a[0])) {
                        return -11;
                    }
                    String[] lines = {"0", "10", "20", "310", "420", "50"};
                    return lines[w.crew.get(a[0]).kind].contains("" + a[1]) ? w.crew.get(a[0]).number : -13;
                default: throw new IllegalStateException(name);
            }
        }

        long lay(int r, int length, int stalks) {
            if (!row(r) || !in(length, 0, 24) || stalks < 0 || stalks >> length != 0) {
                return -2;
            }
            String s = "";
            for (int k = 0; k < length; k++) {
                s += (stalks >> k) % 2 == 1 ? "#" : ".";
            }
            w.rows[r] = s;
            return w.left(r);
        }

        long set(int what, int of, int v) {
            if (!in(what, 0, 2) || what != 0 && !one(of) || !in(v, 0, what == 1 ? 9 : 999)) {
                return -2;
            }
            int was;
            if (what == 0) {
                was = w.night;
                w.night = v;
            } else if (what == 1) {
                was = w.crew.get(of).number;
                w.crew.get(of).number = v;
            } else {
                was = w.crew.get(of).apron;
                w.crew.get(of).apron = v;
            }
            return was;
        }

        long gleaner(int kind, int number) {
            if (!in(kind, 0, 5) || !in(number, 0, 9)) {
                return -2;
            }
            if (w.crew.size() == 5) {
                return -4;
            }
            w.crew.add(new Gleaner(kind, number, 0));
            return w.crew.size() - 1;
        }

        long told(int of, int what) {
            if (what == 0) {
                return w.night;
            }
            if (in(what, 1, 4) && one(of)) {
                Gleaner g = w.crew.get(of);
                return new int[] {g.number, g.apron, g.kind, w.keeps(g)}[what - 1];
            }
            if (in(what, 5, 10) && row(of)) {
                String s = w.rows[of];
                int bits = 0;
                for (int k = 0; k < s.length(); k++) {
                    bits += s.charAt(k) == '#' ? 1 << k : 0;
                }
                return new int[] {s.length(), bits, w.left(of), w.sizes(of).size(), greatest(w, of), w.shakes(of)}[what - 5];
            }
            return -2;
        }

        int greatest(World v, int r) {
            int g = 0;
            for (int s : v.sizes(r)) {
                g = Math.max(g, s);
            }
            return g;
        }

        long text() {
            if (texts.size() == 6) {
                return -4;
            }
            String read = tape;
            tape = "";
            try {
                texts.add(new Parser(read).whole());
                return texts.size() - 1;
            } catch (Fault f) {
                return -100 - f.place;
            }
        }

        List<Integer> orders(int n) {
            List<Integer> all = new ArrayList<>();
            int top = (int) Math.pow(10, n);
            for (int o = n == 0 ? 0 : top / 10; o < top; o++) {
                String s = n == 0 ? "" : "" + o;
                boolean so = true;
                for (int d = 1; d <= n && so; d++) {
                    so = s.indexOf('0' + d) >= 0;
                }
                if (so) {
                    all.add(o);
                }
            }
            return all;
        }

        int goAll(World v, int r, int order, int one) {
            int his = 0;
            String s = order == 0 ? "" : "" + order;
            for (char c : s.toCharArray()) {
                int t = v.gleanSum(c - '1', r);
                his = c - '1' == one ? t : his;
            }
            return his;
        }

        int byNumbers(int n) {
            return Integer.parseInt("012345".substring(0, n + 1));
        }

        long tries(int one, int r, int what) {
            if (!one(one) || !row(r) || !in(what, 0, 3)) {
                return -100;
            }
            World v = w.twin();
            int t = v.gleanSum(one, r);
            return new int[] {t, v.left(r), v.crew.get(one).apron, greatest(v, r)}[what];
        }

        long nights(int one, int r, int n, int what) {
            if (!one(one) || !row(r) || !in(n, 0, 20) || !in(what, 0, 1)) {
                return -2;
            }
            World v = w.twin();
            for (int i = 0; i < n; i++) {
                goAll(v, r, byNumbers(v.crew.size()), -1);
                v.pass();
            }
            return what == 0 ? v.crew.get(one).apron : v.left(r);
        }

        long first(int one, int r, int what) {
            if (!one(one) || !row(r) || !in(what, 0, 1)) {
                return -1000;
            }
            int bestOrder = 0;
            int most = Integer.MIN_VALUE;
            for (int o : orders(w.crew.size())) {
                int t = goAll(w.twin(), r, o, one);
                if (t > most) {
                    most = t;
                    bestOrder = o;
                }
            }
            return what == 0 ? bestOrder : most;
        }

        long best(int r, int what) {
            if (!row(r) || !in(what, 0, 4)) {
                return -1000;
            }
            if (what < 2) {
                int bestOrder = 0;
                int least = 99;
                for (int o : orders(w.crew.size())) {
                    World v = w.twin();
                    goAll(v, r, o, -1);
                    if (v.left(r) < least) {
                        least = v.left(r);
                        bestOrder = o;
                    }
                }
                return what == 0 ? bestOrder : least;
            }
            if (what < 4) {
                if (w.crew.isEmpty()) {
                    return -1;
                }
                int who = -1;
                int most = Integer.MIN_VALUE;
                for (int o = 0; o < w.crew.size(); o++) {
                    int t = w.twin().gleanSum(o, r);
                    if (t > most) {
                        most = t;
                        who = o;
                    }
                }
                return what == 2 ? who : most;
            }
            World v = w.twin();
            for (int n = 0; n <= 20; n++) {
                if (v.left(r) == 0) {
                    return n;
                }
                goAll(v, r, byNumbers(v.crew.size()), -1);
                v.pass();
            }
            return -1;
        }

        long rowFor(int one, int what) {
            if (!one(one) || !in(what, 0, 1)) {
                return -1000;
            }
            int bestRow = 0;
            for (int r = 1; r < 4; r++) {
                if (w.twin().gleanSum(one, r) > w.twin().gleanSum(one, bestRow)) {
                    bestRow = r;
                }
            }
            return what == 0 ? bestRow : w.twin().gleanSum(one, bestRow);
        }

        long longest() {
            for (int size = 24; size > 0; size--) {
                for (int r = 0; r < 4; r++) {
                    if (w.sizes(r).contains(size)) {
                        return 100 * r + w.sizes(r).indexOf(size);
                    }
                }
            }
            return -1;
        }

        long close(int part) {
            int places = String.join("", w.rows).length();
            return places == 0 ? NO : fraction(places - w.gaps(), places, part);
        }

        long fraction(int a, int b, int part) {
            if (!in(part, 0, 1)) {
                return NO;
            }
            for (int d = 96; d > 1; d--) {
                if (a % d == 0 && b % d == 0) {
                    return (part == 0 ? a : b) / d;
                }
            }
            return part == 0 ? a : b;
        }

        int otherwise(World v, int[] told, int one, int r) {
            List<Integer> taken = v.glean(one, r);
            for (int i = 0; i < told.length; i++) {
                if (told[i] != taken.get(i)) {
                    return i;
                }
            }
            return -1;
        }

        long tells(int s, int one, int r, int what) {
            if (!row(s) || !one(one) || !row(r) || !in(what, 0, 7)) {
                return -2;
            }
            if (sheets[s] == null) {
                return -11;
            }
            int[] told = sheets[s];
            if (told.length > w.sizes(r).size()) {
                return -2;
            }
            if (what == 0) {
                return otherwise(w.twin(), told, one, r);
            }
            int bits = 0;
            int many = 0;
            int least = -1;
            int[] tried = {0, 6, 10, 100, 100, texts.size(), w.crew.size(), 4};
            for (int i = 0; i < tried[what]; i++) {
                World v = w.twin();
                int who = what == 6 ? i : one;
                int where = what == 7 ? i : r;
                if (what == 1) {
                    v.crew.get(one).kind = i;
                } else if (what == 2) {
                    v.crew.get(one).number = i;
                } else if (what == 3 || what == 4) {
                    v.crew.get(one).apron = i;
                } else if (what == 5) {
                    v.rule = i;
                }
                if (told.length <= v.sizes(where).size() && otherwise(v, told, who, where) == -1) {
                    bits |= i < 30 ? 1 << i : 0;
                    least = many == 0 ? i : least;
                    many++;
                }
            }
            return what == 3 ? many : what == 4 ? least : bits;
        }

        long film(int s, int one, int r) {
            if (!row(s) || !one(one) || !row(r)) {
                return -2;
            }
            sheets[s] = w.twin().glean(one, r).stream().mapToInt(t -> t).toArray();
            sorts[s] = 0;
            return sheets[s].length;
        }

        int drawn(int seed, int one) {
            World v = w.twin();
            int q = seed;
            v.rows[0] = "";
            for (int k = 0; k < 24; k++) {
                q = q * 1103515245 + 12345;
                v.rows[0] += (q >>> 9) % 3 == 0 ? "." : "#";
            }
            return v.gleanSum(one, 0);
        }

        long chance(int seed, int m, int one, int k, int part) {
            if (!in(m, 1, 20) || !one(one) || !in(k, 0, 24)) {
                return NO;
            }
            int many = 0;
            for (int i = 0; i < m; i++) {
                many += drawn(seed + i, one) >= k ? 1 : 0;
            }
            return fraction(many, m, part);
        }

        long sheet(int s, int sort, int n) {
            if (!row(s) || !in(sort, -1, 2) || sort >= 0 && n > 40) {
                return -2;
            }
            if (sort >= 0 && n < 0) {
                return -14;
            }
            sheets[s] = sort == -1 ? null : new int[n];
            sorts[s] = sort;
            return 1;
        }

        long copy(int s, int i, int t, int j, int n) {
            if (!row(s) || !row(t)) {
                return -2;
            }
            if (sheets[s] == null || sheets[t] == null) {
                return -11;
            }
            if (sorts[s] != sorts[t]) {
                return -13;
            }
            try {
                System.arraycopy(sheets[s], i, sheets[t], j, n);
            } catch (IndexOutOfBoundsException e) {
                return -12;
            }
            return n;
        }

        long gleaners(int s, int sort, int from, int n) {
            if (!row(s) || !in(sort, 0, 2) || !in(n, 0, 5)) {
                return -2;
            }
            if (sheets[s] == null) {
                return -11;
            }
            if (sorts[s] != sort) {
                return -13;
            }
            int came = 0;
            for (long i = from; i < from + 2L * n; i += 2) {
                if (i < 0 || i + 1 >= sheets[s].length) {
                    return -12;
                }
                came += gleaner(sheets[s][(int) i], sheets[s][(int) i + 1]) >= 0 ? 1 : 0;
            }
            return came;
        }
    }
}
