import java.io.IOException;
import java.lang.reflect.Method;
import java.lang.reflect.Modifier;
import java.nio.file.DirectoryStream;
import java.nio.file.Files;
import java.nio.file.Path;
import java.util.Arrays;
import java.util.List;
import java.util.Set;
import java.util.TreeSet;
import java.util.regex.Matcher;
import java.util.regex.Pattern;

/** What README.md shows as use gives the answers it tells, and its commands and tests are those of .ci/run. */
public final class ReadmeTest {
    private static final Path README = Path.of("README.md");
    private static final Path RUN = Path.of(".ci/run");
    private static final Path TESTS = Path.of("src/test/java");

    private static final String MAKING = "ParametricCut cut = new ParametricCut();";
    private static final Pattern CALL = Pattern.compile("cut\\.(\\w+)\\(([-\\d, ]*)\\); +// ([^:]+): .+");
    private static final Pattern TEST_NAME = Pattern.compile("`(\\w+Test)`");
    private static final String COMMAND = "    ";

    public static void main(String[] args) throws IOException, ReflectiveOperationException {
        List<String> lines = Files.readAllLines(README);
        shownUse(lines);
        constants(lines);
        commands(lines);
        namedTests(lines);
        Check.end();
    }

    private static void shownUse(List<String> lines) throws ReflectiveOperationException {
        Check.sentence("README: the calls under Use answer what stands behind them");
        int start = lines.indexOf("```java") + 1;
        int end = start + lines.subList(start, lines.size()).indexOf("```");
        Check.due("there is one block of Java", start > 0 && end > start && lines.lastIndexOf("```java") < end, true);
        Check.due("it begins with " + MAKING, lines.get(start).equals(MAKING), true);
        ParametricCut cut = new ParametricCut();
        Set<String> shown = new TreeSet<>();
        for (String line : lines.subList(start + 1, end)) {
            if (!line.isBlank()) {
                shown.add(shownCall(cut, line));
            }
        }
        for (Method method : ParametricCut.class.getDeclaredMethods()) {
            if (Modifier.isPublic(method.getModifiers())) {
                Check.due(method.getName() + " is shown", shown.contains(method.getName()), true);
            }
        }
    }

    /** Makes the call of one line; answers the method's name. */
    private static String shownCall(ParametricCut cut, String line) throws ReflectiveOperationException {
        Matcher call = CALL.matcher(line);
        boolean readable = call.matches();
        Check.due("a call and its answer: " + line, readable, true);
        if (!readable) {
            return "";
        }
        Object[] numbers = numbers(call.group(2));
        Class<?>[] types = new Class<?>[numbers.length];
        Arrays.fill(types, int.class);
        Object got = ParametricCut.class.getMethod(call.group(1), types).invoke(cut, numbers);
        String want = call.group(3);
        Check.due(line + " (answered " + got + ")", told(want).equals(String.valueOf(got)), true);
        return call.group(1);
    }

    private static Object[] numbers(String list) {
        return list.isEmpty() ? new Object[0] : Arrays.stream(list.split(", ")).map(Integer::valueOf).toArray();
    }

    /** README names the wrong answers, and a call without an answer. */
    private static String told(String answer) throws ReflectiveOperationException {
        if (answer.equals("no answer")) {
            return "null";
        }
        return answer.startsWith("BAD_") ? String.valueOf(ParametricCut.class.getField(answer).getInt(null)) : answer;
    }

    private static void constants(List<String> lines) {
        Check.sentence("README: the constants are the class's");
        String words = "`BAD_NODE` is " + ParametricCut.BAD_NODE + " and `BAD_NUMBER` is " + ParametricCut.BAD_NUMBER + ".";
        Check.due(words, lines.stream().anyMatch(line -> line.contains(words)), true);
    }

    private static void commands(List<String> lines) throws IOException {
        Check.sentence("README: the tests are run as .ci/run runs them");
        List<String> script = Files.readAllLines(RUN).stream().map(String::strip).toList();
        Check.due(RUN + " can be run", Files.isExecutable(RUN), true);
        Check.due("it is named", lines.contains(COMMAND + RUN), true);
        int compiled = 0;
        int run = 0;
        for (String line : lines) {
            String command = line.strip();
            if (line.startsWith(COMMAND + "javac ") || line.startsWith(COMMAND + "java ")) {
                Check.due(RUN + " has " + command, script.contains(command), true);
                compiled += command.startsWith("javac ") ? 1 : 0;
                run += command.startsWith("java ") ? 1 : 0;
            }
        }
        Check.due("commands that compile, for own and for shared tests", compiled, 2);
        Check.due("commands that run, for own and for shared tests", run, 2);
    }

    private static void namedTests(List<String> lines) throws IOException {
        Check.sentence("README: the tests that it names are those that there are");
        Set<String> named = new TreeSet<>();
        Matcher name = TEST_NAME.matcher(String.join("\n", lines));
        while (name.find()) {
            named.add(name.group(1));
        }
        Set<String> there = new TreeSet<>();
        try (DirectoryStream<Path> files = Files.newDirectoryStream(TESTS, "*Test.java")) {
            for (Path file : files) {
                there.add(file.getFileName().toString().replace(".java", ""));
            }
        }
        Check.due("named " + named + ", there " + there, named.equals(there), true);
    }
}
