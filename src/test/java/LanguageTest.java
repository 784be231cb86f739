import java.io.IOException;
import java.nio.file.Files;
import java.nio.file.Path;
import java.util.ArrayList;
import java.util.List;
import java.util.Map;
import java.util.Set;
import java.util.TreeMap;
import java.util.TreeSet;
import java.util.regex.MatchResult;
import java.util.regex.Matcher;
import java.util.regex.Pattern;

/**
 * LANGUAGE.md's rules, as far as the text of the class can show them. The class is held to a narrower form than
 * the rules leave (no dot, no division, no loop but by a rising counter), which is simpler to look at.
 */
public final class LanguageTest {
    private static final Path SOURCE = Path.of("src/main/java/ParametricCut.java");

    private static final Pattern TOP = Pattern.compile("public final class ParametricCut \\{|\\}|");
    private static final Pattern CONSTANT = Pattern.compile("(public|private) static final (int|long) ([A-Z_]+) = -?\\d+;");
    private static final Pattern FIELD = Pattern.compile("private final int\\[\\] (\\w+) = new int\\[[A-Z_]+\\];");
    private static final Pattern METHOD = Pattern.compile(
            "(public|private)( static)? (int|boolean|void) (\\w+)\\(((?:int \\w+(?:, )?)*)\\) \\{");
    private static final String CONSTRUCTOR = "public ParametricCut() {";
    private static final Pattern FOR = Pattern.compile("for \\(int (\\w+) = \\w+; \\1 <=? \\w+; \\1\\+\\+\\) \\{");
    private static final Pattern CALLED = Pattern.compile("\\b(?!(?:if|for|while|switch|return)\\b)\\w+ ?\\(");
    private static final Pattern OUTSIDE = Pattern.compile("[.\"'/%@]|->|::|\\[\\]|\\b(?:new|null|this|super|"
            + "float|double|var|throw|throws|try|catch|finally|synchronized|assert|instanceof|while|do|"
            + "class|interface|enum|record|native)\\b");
    private static final Pattern CAPITAL = Pattern.compile("\\b[A-Z]\\w*");

    private final List<String> breaches = new ArrayList<>();
    private final Set<String> constants = new TreeSet<>();
    private final Set<String> arrays = new TreeSet<>();
    private final Map<String, List<String>> bodies = new TreeMap<>();

    public static void main(String[] args) throws IOException {
        String source = Files.readString(SOURCE);
        Check.sentence("LANGUAGE.md: the class keeps to its rules");
        List<String> found = breaches(source);
        found.forEach(System.out::println);
        Check.due("breaches of the rules", found.size(), 0);
        Check.sentence("LANGUAGE.md: a broken rule would be found");
        broken(source);
        Check.end();
    }

    private static List<String> breaches(String source) {
        LanguageTest test = new LanguageTest();
        test.read(source.replaceAll("(?s)/\\*.*?\\*/", "").replaceAll("//[^\n]*", "").split("\n"));
        test.bodies.keySet().forEach(test::readMethod);
        return test.breaches;
    }

    private void breachIf(boolean broken, String what) {
        if (broken) {
            breaches.add(what);
        }
    }

    /** Sorts the lines by their depth: the class, its members, the bodies of its methods. */
    private void read(String[] lines) {
        List<String> body = newBody("");
        for (String line : lines) {
            String text = line.strip();
            if (line.startsWith("     ")) {
                body.add(text);
            } else if (line.startsWith("    ") && !text.isEmpty()) {
                body = readMember(text, body);
            } else {
                breachIf(!TOP.matcher(text).matches(), "rule 1: " + text);
            }
        }
    }

    /** Answers the body that the next lines belong to. */
    private List<String> readMember(String text, List<String> body) {
        Matcher constant = CONSTANT.matcher(text);
        Matcher field = FIELD.matcher(text);
        Matcher method = METHOD.matcher(text);
        if (constant.matches()) {
            constants.add(constant.group(3));
        } else if (field.matches()) {
            arrays.add(field.group(1));
        } else if (method.matches()) {
            return newMethod(method);
        } else if (text.equals(CONSTRUCTOR)) {
            return newBody("ParametricCut");
        } else {
            breachIf(!text.equals("}"), "rules 1, 2, 4, 5: not a constant, a field or a method: " + text);
        }
        return body;
    }

    private List<String> newMethod(MatchResult method) {
        String name = method.group(4);
        breachIf(bodies.containsKey(name), "rule 1: a name used twice: " + name);
        breachIf(method.group(5).split(",").length > 7, "rule 10: more than seven parameters: " + name);
        return newBody(name);
    }

    private List<String> newBody(String name) {
        List<String> body = new ArrayList<>();
        bodies.put(name, body);
        return body;
    }

    private void readMethod(String name) {
        List<String> body = bodies.get(name);
        breachIf(body.size() > 58, "rule 10: a long method: " + name);
        for (String line : body) {
            words(line);
            breachIf(line.startsWith("for") && !FOR.matcher(line).matches(), "rule 8: a loop without a counter: " + line);
            breachIf(callInArgument(line), "rule 10: a call in an argument: " + line);
        }
        countersKept(name, body);
        breachIf(depth(name, new TreeSet<>()) > 6, "rules 8, 10: calls too deep from " + name);
    }

    private void words(String line) {
        OUTSIDE.matcher(line).results()
                .forEach(word -> breaches.add("rules 2, 3, 4, 6, 7, 8: " + word.group() + " in " + line));
        CAPITAL.matcher(line).results().filter(word -> !constants.contains(word.group()))
                .forEach(word -> breaches.add("rule 3: " + word.group() + " in " + line));
        for (String array : arrays) {
            boolean whole = Pattern.compile("\\b" + array + "\\b(?!\\[)").matcher(line).find();
            breachIf(whole, "rule 4: the array " + array + " as a whole in " + line);
        }
    }

    /** A counter that its own loop changes might never reach the bound. */
    private void countersKept(String name, List<String> body) {
        String text = String.join("\n", body);
        for (String line : body) {
            Matcher loop = FOR.matcher(line);
            if (loop.matches()) {
                String counter = "\\b" + loop.group(1) + "\\b";
                String change = counter + " ?(?:(?:[-+*|&^]|<<|>>>?)?=[^=]|\\+\\+|--)|(?:\\+\\+|--)" + counter;
                long changes = Pattern.compile(change).matcher(text).results().count();
                long loops = Pattern.compile("for \\(int " + counter).matcher(text).results().count();
                breachIf(changes != 2 * loops, "rule 8: a counter changed inside its loop: " + name + ", " + line);
            }
        }
    }

    private static boolean callInArgument(String line) {
        Matcher call = CALLED.matcher(line);
        while (call.find()) {
            int end = call.end();
            for (int open = 1; open > 0 && end < line.length(); end++) {
                open += line.charAt(end) == '(' ? 1 : line.charAt(end) == ')' ? -1 : 0;
            }
            if (CALLED.matcher(line.substring(call.end(), end)).find()) {
                return true;
            }
        }
        return false;
    }

    /** How deep the calls go from this method, itself counted; a method that comes back is too deep for any bound. */
    private int depth(String name, Set<String> above) {
        if (above.contains(name)) {
            return 1000;
        }
        Set<String> path = new TreeSet<>(above);
        path.add(name);
        int deepest = 0;
        for (MatchResult call : CALLED.matcher(String.join("\n", bodies.get(name))).results().toList()) {
            String called = call.group().replaceAll("\\W", "");
            breachIf(!bodies.containsKey(called), "rule 3: a call of " + called);
            deepest = Math.max(deepest, bodies.containsKey(called) ? depth(called, path) : 0);
        }
        return deepest + 1;
    }

    private static void broken(String source) {
        isFound(source, "public final class", "public class");
        isFound(source, "public final class", "import java.util.List;\npublic final class");
        isFound(source, "private int leastCost", "int leastCost");
        isFound(source, "private int leastCost", "protected int leastCost");
        isFound(source, "leastCost", "least");
        isFound(source, "    public void flip()", "    private static class Inner {\n    }\n    public void flip()");
        isFound(source, "int old = ", "double old = ");
        isFound(source, "int old = ", "var old = ");
        isFound(source, "int old = ", "Integer old = ");
        isFound(source, "int old = capacities[cell]", "int old = Math.max(0, capacities[cell])");
        isFound(source, "int old = capacities[cell]", "int old = capacities.length");
        isFound(source, "int old = ", "int[] made = new int[3];\n        int old = ");
        isFound(source, "int old = ", "int[] named = capacities;\n        int old = ");
        isFound(source, "return old;", "return capacities == sinkBase ? old : old;");
        isFound(source, "private final int[] capacities", "private static final int[] capacities");
        isFound(source, "new int[LINK_CELLS]", "new int[0]");
        isFound(source, "    public void flip()", "    static {\n    }\n    public void flip()");
        isFound(source, "public ParametricCut() {", "public ParametricCut() {\n        int[] made = new int[3];");
        isFound(source, "return old;", "throw null;");
        isFound(source, "return old;", "return old / capacity;");
        isFound(source, "return old;", "return link(u, v, capacity);");
        isFound(source, "int least = costOf(0, x);", "int least = leastCost(x);");
        isFound(source, "int least = costOf(0, x);", "int least = costOf(linkCell(0, 1), x);");
        isFound(source, "int least = costOf(0, x);", "int least = worst();");
        isFound(source, "for (int v = 0; v < NODES; v++) {", "while (true) {");
        isFound(source, "for (int v = 0; v < NODES; v++) {", "for (int v = 0; v < NODES; v--) {");
        isFound(source, "for (int v = 0; v < NODES; v++) {", "for (int v = 0; v < NODES; v++) {\n            v = 0;");
        isFound(source, "return old;", "x = 0;\n        ".repeat(60) + "return old;");
        isFound(source, "int link(int u, ", "int link(int a, int b, int c, int d, int e, int u, ");
        isFound(source, "int link(int u, ", "int link(String u, ");
    }

    private static void isFound(String source, String kept, String put) {
        Check.due("there is " + kept, source.contains(kept), true);
        Check.due("found: " + put, breaches(source.replace(kept, put)).isEmpty(), false);
    }
}
