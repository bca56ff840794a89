import java.lang.reflect.Method;
import java.lang.reflect.Modifier;
import java.nio.file.Files;
import java.nio.file.Path;
import java.util.Arrays;
import java.util.List;
import java.util.Set;
import java.util.TreeSet;
import java.util.regex.Matcher;
import java.util.regex.Pattern;

// README.md tells the truth: its example answers what it says, and example and table show every method.
public final class ReadmeTests {
    private static final Pattern CALL = Pattern.compile("cells\\.(\\w+)\\(([^)]*)\\); *// (-?\\d+|BAD|BROKEN)\\b.*");
    private static final Pattern ROW = Pattern.compile("\\| `(\\w+)\\(([^)]*)\\)` \\|.*");
    private static int wrong = 0;

    private static void hold(boolean held, String what) {
        if (!held) {
            wrong++;
            System.out.println("README.md: " + what);
        }
    }

    public static void main(String[] args) throws Exception {
        List<String> lines = Files.readAllLines(Path.of("README.md"));
        int start = lines.indexOf("```java");
        int end = lines.indexOf("```");
        hold(start >= 0 && start < end, "no example");
        if (start >= 0 && start < end) {
            checkExample(lines.subList(start + 1, end));
        }
        checkTable(lines);
        hold(lines.contains("    .ci/run"), "not told how to run the tests");
        checkTestsAreNamed(lines);
        System.out.println(wrong == 0 ? "README.md is as due" : wrong + " places of README.md are not as due");
        if (wrong != 0) {
            System.exit(1);
        }
    }

    private static void checkExample(List<String> lines) throws Exception {
        hold(lines.get(0).equals("ScrubbedCells cells = new ScrubbedCells();"), "the example makes no object first");
        ScrubbedCells cells = new ScrubbedCells();
        Set<String> called = new TreeSet<>();
        for (String line : lines.subList(1, lines.size())) {
            Matcher call = CALL.matcher(line);
            hold(call.matches(), "a line of the example without call and answer: " + line);
            if (call.matches()) {
                called.add(call.group(1));
                int got = answerOf(cells, call.group(1), call.group(2));
                hold(got == numberOf(call.group(3)), line + " answered " + got);
            }
        }
        hold(called.equals(methodNames()), "the example calls " + called + ", due is " + methodNames());
    }

    private static int answerOf(ScrubbedCells cells, String name, String arguments) throws Exception {
        Object[] numbers = Arrays.stream(arguments.split(", ")).filter(text -> !text.isEmpty())
            .map(Integer::valueOf).toArray();
        Class<?>[] types = new Class<?>[numbers.length];
        Arrays.fill(types, int.class);
        return (Integer) ScrubbedCells.class.getMethod(name, types).invoke(cells, numbers);
    }

    private static int numberOf(String answer) {
        switch (answer) {
            case "BAD": return ScrubbedCells.BAD;
            case "BROKEN": return ScrubbedCells.BROKEN;
            default: return Integer.parseInt(answer);
        }
    }

    private static Set<String> methodNames() {
        Set<String> names = new TreeSet<>();
        for (Method method : ScrubbedCells.class.getDeclaredMethods()) {
            if (Modifier.isPublic(method.getModifiers())) {
                names.add(method.getName());
            }
        }
        return names;
    }

    private static void checkTable(List<String> lines) {
        Set<String> rows = new TreeSet<>();
        for (String line : lines) {
            Matcher row = ROW.matcher(line);
            if (row.matches()) {
                rows.add(row.group(1));
            }
        }
        hold(rows.equals(methodNames()), "the table tells " + rows + ", due is " + methodNames());
    }

    private static void checkTestsAreNamed(List<String> lines) throws Exception {
        try (var files = Files.list(Path.of("src/test/java"))) {
            for (Path file : (Iterable<Path>) files::iterator) {
                String name = file.getFileName().toString().replace(".java", "");
                hold(lines.stream().anyMatch(line -> line.startsWith("- `" + name + "` ")), name + " is not told of");
            }
        }
    }
}
