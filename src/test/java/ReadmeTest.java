import java.io.IOException;
import java.lang.reflect.Method;
import java.nio.file.Files;
import java.nio.file.Path;
import java.util.ArrayList;
import java.util.List;
import java.util.Set;
import java.util.TreeSet;
import java.util.regex.Matcher;
import java.util.regex.Pattern;
import javax.tools.ToolProvider;

/**
 * README.md tells the truth where that can be tried: its example, made and run as it stands there, prints what stands
 * under it, and every call, constant and test has a row. Started where the project's folder is the working one.
 */
public final class ReadmeTest {
    private static final Path README = Path.of("README.md");
    private static final Path TESTS = Path.of("src/test/java");
    private static final Pattern CALL_ROW = Pattern.compile("\\| `(\\w+)\\(([^)]*)\\)` \\|.*");
    private static final Pattern TEST_ROW = Pattern.compile("\\| `(\\w+Test)` \\|.*");
    private static final Check CHECK = new Check();

    public static void main(String[] args) throws IOException, InterruptedException {
        List<String> lines = Files.readAllLines(README);
        example(lines);
        calls(lines);
        constants(lines);
        tests(lines);
        CHECK.end();
    }

    private static void example(List<String> lines) throws IOException, InterruptedException {
        int program = lines.indexOf("```java");
        CHECK.due("README has an example", program >= 0 ? 1 : 0, 1);
        int output = program + lines.subList(program, lines.size()).indexOf("```text");
        List<String> due = block(lines, output);
        List<String> printed = run(block(lines, program));
        CHECK.due("lines that the example prints", printed.size(), due.size());
        for (int i = 0; i < Math.min(printed.size(), due.size()); i++) {
            boolean isSame = printed.get(i).equals(due.get(i));
            CHECK.due("example, line " + i + ": '" + printed.get(i) + "' is '" + due.get(i) + "'", isSame ? 1 : 0, 1);
        }
    }

    private static List<String> block(List<String> lines, int begin) {
        int end = begin + 1;
        while (end < lines.size() && !lines.get(end).equals("```")) {
            end++;
        }
        return lines.subList(begin + 1, end);
    }

    private static List<String> run(List<String> program) throws IOException, InterruptedException {
        Path folder = Files.createTempDirectory("readme");
        Path source = folder.resolve("Example.java");
        Path printed = folder.resolve("printed");
        Files.write(source, program);
        String classes = System.getProperty("java.class.path");
        int failed = ToolProvider.getSystemJavaCompiler()
            .run(null, null, null, "-d", folder.toString(), "-cp", classes, source.toString());
        CHECK.due("the example compiles", failed, 0);
        String java = Path.of(System.getProperty("java.home"), "bin", "java").toString();
        String separator = System.getProperty("path.separator");
        Process process = new ProcessBuilder(java, "-cp", folder + separator + classes, "Example")
            .redirectErrorStream(true).redirectOutput(printed.toFile()).start();
        CHECK.due("the example's exit code", process.waitFor(), 0);
        List<String> answer = Files.readAllLines(printed);
        try (var files = Files.list(folder)) {
            for (Path file : files.toList()) {
                Files.delete(file);
            }
        }
        Files.delete(folder);
        return answer;
    }

    private static void calls(List<String> lines) {
        Set<String> rows = new TreeSet<>();
        for (String line : lines) {
            Matcher row = CALL_ROW.matcher(line);
            if (row.matches()) {
                int parameters = row.group(2).isEmpty() ? 0 : row.group(2).split(",").length;
                CHECK.due("a new row: " + row.group(1), rows.add(row.group(1) + " with " + parameters) ? 1 : 0, 1);
            }
        }
        Set<String> due = new TreeSet<>();
        for (Method method : ThawGives.class.getMethods()) {
            if (method.getDeclaringClass() == ThawGives.class) {
                due.add(method.getName() + " with " + method.getParameterCount());
            }
        }
        same("calls", rows, due);
    }

    private static void constants(List<String> lines) {
        List<String> due = new ArrayList<>();
        due.add("| `ThawGives.NONE` | " + ThawGives.NONE + " |");
        due.add("| `ThawGives.BAD` | " + ThawGives.BAD + " |");
        due.add("| `ThawGives.STATE` | " + ThawGives.STATE + " |");
        due.add("| `ThawGives.FULL` | " + ThawGives.FULL + " |");
        due.add("| `ThawGives.NO` | `Long.MIN_VALUE` |");
        for (String row : due) {
            long many = lines.stream().filter(line -> line.startsWith(row)).count();
            CHECK.due("rows that begin with " + row, many, 1);
        }
    }

    private static void tests(List<String> lines) throws IOException {
        Set<String> rows = new TreeSet<>();
        for (String line : lines) {
            Matcher row = TEST_ROW.matcher(line);
            if (row.matches()) {
                rows.add(row.group(1));
            }
        }
        Set<String> due = new TreeSet<>();
        try (var files = Files.list(TESTS)) {
            for (Path file : files.toList()) {
                String name = file.getFileName().toString();
                if (name.endsWith("Test.java")) {
                    due.add(name.substring(0, name.length() - ".java".length()));
                }
            }
        }
        same("tests", rows, due);
    }

    private static void same(String what, Set<String> told, Set<String> due) {
        CHECK.due("README's " + what + " " + told + " are " + due, told.equals(due) ? 1 : 0, 1);
    }
}
