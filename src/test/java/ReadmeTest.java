import java.io.IOException;
import java.nio.file.Files;
import java.nio.file.Path;
import java.util.List;
import java.util.TreeSet;
import java.util.regex.Matcher;
import java.util.regex.Pattern;
import java.util.stream.Stream;

/** README.md: its example answers what it says, and it names every method of the public face and every test. */
public final class ReadmeTest {
    private static final Path README = Path.of("README.md");
    private static final Path PROGRAM = Path.of("src/main/java/RuleMatcher.java");
    private static final Path TESTS = Path.of("src/test/java");
    private static final Pattern EXAMPLE = Pattern.compile("x\\.(\\w+)\\((.*)\\); +// (-?\\d+): .*");
    private static final Pattern FACE = Pattern.compile("    public (.*\\)) \\{");
    private static final Pattern TEST_ROW = Pattern.compile("\\| (\\w+Test) \\|.*");

    public static void main(String[] args) throws IOException {
        List<String> lines = Files.readAllLines(README);
        example(lines);
        methods(lines);
        tests(lines);
        Due.end();
    }

    private static void example(List<String> lines) {
        Due.part("the example");
        RuleMatcher x = new RuleMatcher();
        int calls = 0;
        for (String line : lines) {
            Matcher found = EXAMPLE.matcher(line);
            if (found.matches()) {
                Call call = Call.of(found.group(1), numbers(found.group(2)));
                Due.due(line, call.on(x), Integer.parseInt(found.group(3)));
                calls++;
            }
        }
        Due.due("the lines of the example that could be read", calls, exampleLines(lines));
    }

    private static int exampleLines(List<String> lines) {
        return (int) lines.stream().filter(line -> line.startsWith("x.")).count();
    }

    private static Integer[] numbers(String arguments) {
        if (arguments.isEmpty()) {
            return new Integer[0];
        }
        return Stream.of(arguments.split(",")).map(ReadmeTest::sum).toArray(Integer[]::new);
    }

    private static int sum(String text) {
        return Stream.of(text.split("\\+")).mapToInt(ReadmeTest::product).sum();
    }

    private static int product(String text) {
        int product = 1;
        for (String factor : text.split("\\*")) {
            product *= Integer.parseInt(factor.trim());
        }
        return product;
    }

    private static void methods(List<String> lines) throws IOException {
        Due.part("the methods");
        int methods = 0;
        for (String line : Files.readAllLines(PROGRAM)) {
            Matcher found = FACE.matcher(line);
            if (found.matches()) {
                String row = "| `" + found.group(1) + "` | ";
                Due.due(row, (int) lines.stream().filter(l -> l.startsWith(row)).count(), 1);
                methods++;
            }
        }
        Due.due("constructor and methods", methods, 17);
    }

    private static void tests(List<String> lines) throws IOException {
        Due.part("the tests");
        TreeSet<String> told = new TreeSet<>();
        for (String line : lines) {
            Matcher found = TEST_ROW.matcher(line);
            if (found.matches()) {
                told.add(found.group(1));
            }
        }
        TreeSet<String> there = new TreeSet<>();
        try (Stream<Path> files = Files.list(TESTS)) {
            files.map(file -> file.getFileName().toString()).filter(name -> name.endsWith("Test.java"))
                .forEach(name -> there.add(name.replace(".java", "")));
        }
        Due.due("told " + told + ", there are " + there, told.equals(there) ? 1 : 0, 1);
    }
}
