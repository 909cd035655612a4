import java.io.IOException;
import java.lang.reflect.Method;
import java.nio.file.Files;
import java.nio.file.Path;
import java.util.ArrayList;
import java.util.HashMap;
import java.util.List;
import java.util.Map;
import java.util.Set;
import java.util.TreeSet;
import java.util.regex.Matcher;
import java.util.regex.Pattern;

/** What README.md says of the class is so: its example, its tables of calls and refusals, its list of tests. */
public final class ReadmeTest {
    private static final Map<String, Long> CONSTANTS = Map.of("BAD", (long) SaveLoops.BAD, "NO", (long) SaveLoops.NO,
        "FULL", (long) SaveLoops.FULL, "NONE", (long) SaveLoops.NONE);
    private static final String MAKING = "SaveLoops loops = new SaveLoops();";
    /** "int near = loops.part(1, 1, 3); // 0: the first part", or without a name for the answer. */
    private static final Pattern STEP =
        Pattern.compile("(?:(int|long) (\\w+) = )?loops\\.(\\w+)\\(([^)]*)\\);\\s*// (-?\\w+)(?::.*)?");
    private static final Pattern CALL_ROW = Pattern.compile("\\| `((?:int|long) \\w+\\([^)]*\\))` \\|.*");
    private static final Pattern CONSTANT_ROW = Pattern.compile("\\| `(\\w+)` \\| (-?\\d+) \\|.*");

    private final Check check = new Check("ReadmeTest");
    private final List<String> lines;

    public static void main(String[] args) throws IOException {
        ReadmeTest test = new ReadmeTest(Files.readAllLines(Path.of("README.md")));
        test.example();
        test.calls();
        test.constants();
        test.callsOfAnObject();
        test.tests();
        test.check.end();
    }

    private ReadmeTest(List<String> lines) {
        this.lines = lines;
    }

    private void example() {
        List<String> steps = blockOf("```java");
        check.due("where the example makes its object", 0, steps.indexOf(MAKING));
        SaveLoops loops = new SaveLoops();
        Map<String, Long> names = new HashMap<>();
        for (String step : steps) {
            Matcher matcher = STEP.matcher(step);
            if (matcher.matches()) {
                take(loops, names, matcher);
            } else {
                check.that("a step of the example tells its answer: " + step, step.isEmpty() || step.equals(MAKING));
            }
        }
    }

    private void take(SaveLoops loops, Map<String, Long> names, Matcher step) {
        String name = step.group(3);
        StringBuilder call = new StringBuilder(name);
        for (String given : step.group(4).split(", ")) {
            call.append(' ').append(valueOf(given, names));
        }
        long answer = new Call(call.toString()).on(loops);
        check.due(step.group(), valueOf(step.group(5), CONSTANTS), answer);
        if (step.group(2) != null) {
            check.same("the kind of " + step.group(2), answerKind(name), step.group(1));
            names.put(step.group(2), answer);
        }
    }

    /** A number, a name, or a sum of these. */
    private static long valueOf(String text, Map<String, Long> names) {
        long sum = 0;
        for (String term : text.split(" \\+ ")) {
            Long named = names.get(term);
            sum += named != null ? named : Long.parseLong(term.endsWith("L") ? term.substring(0, term.length() - 1) : term);
        }
        return sum;
    }

    private static String answerKind(String name) {
        for (Method method : SaveLoops.class.getMethods()) {
            if (method.getName().equals(name)) {
                return method.getReturnType().toString();
            }
        }
        return "none";
    }

    private void calls() {
        List<String> told = new ArrayList<>();
        for (String line : lines) {
            Matcher row = CALL_ROW.matcher(line);
            if (row.matches()) {
                told.add(row.group(1).replaceAll("(int|long) \\w+([,)])", "$1$2").replace(", ", ","));
                check.due("columns of " + row.group(1), 4, line.chars().filter(sign -> sign == '|').count() - 1);
            }
        }
        check.due("calls are told once each", FaceTest.METHODS.length, told.size());
        check.same("calls that are told", new TreeSet<>(Set.of(FaceTest.METHODS)).toString(), new TreeSet<>(told).toString());
    }

    private void constants() {
        Map<String, Long> told = new HashMap<>();
        for (String line : lines) {
            Matcher row = CONSTANT_ROW.matcher(line);
            if (row.matches()) {
                told.put(row.group(1), Long.valueOf(row.group(2)));
            }
        }
        check.that("constants are told: " + told, told.equals(CONSTANTS));
    }

    private void callsOfAnObject() {
        check.that("for how many calls an object may be used is told", String.join(" ", lines).contains("**512 calls**"));
    }

    private void tests() {
        String all = String.join("\n", lines);
        check.that("how to run the tests is told", lines.contains(".ci/run"));
        String[] files = Path.of("src/test/java").toFile().list();
        check.that("tests are found", files != null);
        for (String file : files == null ? new String[0] : files) {
            if (file.endsWith("Test.java")) {
                String name = file.substring(0, file.length() - ".java".length());
                check.that("the test is told: " + name, all.contains("`" + name + "`"));
            }
        }
    }

    /** The lines of the first block with that mark; none if there is no such block. */
    private List<String> blockOf(String mark) {
        int start = lines.indexOf(mark);
        int length = lines.subList(start + 1, lines.size()).indexOf("```");
        return start < 0 || length < 0 ? List.of() : lines.subList(start + 1, start + 1 + length);
    }
}
