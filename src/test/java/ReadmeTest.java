import java.io.IOException;
import java.lang.reflect.Method;
import java.net.URL;
import java.net.URLClassLoader;
import java.nio.file.Files;
import java.nio.file.Path;
import java.util.ArrayList;
import java.util.Arrays;
import java.util.LinkedHashMap;
import java.util.List;
import java.util.Map;
import java.util.regex.Matcher;
import java.util.regex.Pattern;
import javax.tools.ToolProvider;

/**
 * What README.md shows: its example compiles and answers as its comments say, its constants have their
 * numbers, each call of the document has its row with the document's refusals, and each row's examples are so.
 */
public final class ReadmeTest {
    private static final String[] REPORTS = {"0:-50,50", "40:-30,34~2", "-40:-36,30~2", "80:x"};
    private static final String PAGE = "60:-9,1";
    private static final Pattern SHOWN = Pattern.compile("^int (\\w+) = spans\\.\\w+\\(.*\\); +// (-?[0-9]+|[A-Z]+): .+$");
    private static final Pattern EXAMPLE = Pattern.compile("`(\\w+)\\(([^)`]*)\\)` = `?(-?[0-9]+|[A-Z]+)`?");
    private static final Pattern REFUSAL = Pattern.compile("\\b(UNKNOWN|OUTSIDE|STATE|FULL)\\b");
    private static final Pattern PROMISE =
        Pattern.compile("(?m)^## Promise ([0-9]+):.*\\n+`(?:int |long )?(\\w+\\([^)]*\\))`: (.*)$");

    private static final Check check = new Check();

    public static void main(String[] args) throws IOException, ReflectiveOperationException {
        String readme = Files.readString(Path.of("README.md"));
        example(readme);
        constants(readme);
        Map<String, String[]> rows = rows(readme);
        calls(rows, Files.readString(Path.of("../shared/DOC.md")));
        for (String[] row : rows.values()) {
            examples(row);
        }
        tests(readme);
        check.end("ReadmeTest");
    }

    private static void example(String readme) throws IOException, ReflectiveOperationException {
        Matcher block = Pattern.compile("(?s)```java\\n(.*?)```").matcher(readme);
        check.due("README.md has an example", block.find());
        List<String> names = new ArrayList<>();
        List<Long> due = new ArrayList<>();
        for (String line : block.group(1).split("\n")) {
            Matcher shown = SHOWN.matcher(line);
            if (shown.matches()) {
                names.add(shown.group(1));
                due.add(number(shown.group(2)));
            } else {
                check.due("the example says what it shows: " + line, !line.contains("//"));
            }
        }
        for (String report : REPORTS) {
            check.due("the example has the report " + report, block.group(1).contains("\"" + report + "\""));
        }
        check.due("README.md says what is on the page", readme.replace('\n', ' ').contains("letters `" + PAGE + "`"));
        long[] got = run(block.group(1), names);
        for (int i = 0; i < got.length; i++) {
            check.due("README.md's " + names.get(i), got[i], due.get(i));
        }
        check.due("what the example shows", got.length > 10);
        check.due("it is the one example", !block.find());
    }

    /** What these names stand for behind the example's last line. */
    private static long[] run(String block, List<String> names) throws IOException, ReflectiveOperationException {
        Path place = Files.createTempDirectory("readme");
        Path source = place.resolve("ReadmeExample.java");
        Path binary = place.resolve("ReadmeExample.class");
        Files.writeString(source, "public final class ReadmeExample { public static long[] run() {\n" + block
            + "return new long[] {" + String.join(", ", names) + "}; } }\n");
        try {
            int exit = ToolProvider.getSystemJavaCompiler().run(null, null, null, "--release", "17", "-cp",
                System.getProperty("java.class.path"), "-d", place.toString(), source.toString());
            check.due("javac of the example", exit, 0);
            if (exit != 0) {
                return new long[0];
            }
            try (URLClassLoader loader = new URLClassLoader(new URL[] {place.toUri().toURL()})) {
                return (long[]) loader.loadClass("ReadmeExample").getMethod("run").invoke(null);
            }
        } finally {
            Files.deleteIfExists(source);
            Files.deleteIfExists(binary);
            Files.deleteIfExists(place);
        }
    }

    private static long number(String text) throws ReflectiveOperationException {
        return Character.isLetter(text.charAt(0)) ? ShadowSpans.class.getField(text).getInt(null) : Long.parseLong(text);
    }

    private static void constants(String readme) throws ReflectiveOperationException {
        Matcher row = Pattern.compile("(?m)^\\| `([A-Z]+)` \\| (-[0-9]+) \\|").matcher(readme);
        int found = 0;
        while (row.find()) {
            check.due("README.md's " + row.group(1), Long.parseLong(row.group(2)), number(row.group(1)));
            found++;
        }
        check.due("constants in README.md", found, ShadowSpans.class.getFields().length);
    }

    /** The rows of calls by the number of their promise: number, call, answers, refuses, examples. */
    private static Map<String, String[]> rows(String readme) {
        Map<String, String[]> rows = new LinkedHashMap<>();
        for (String line : readme.split("\n")) {
            if (line.matches("\\| [0-9]+ \\| `.*")) {
                String[] cells = line.substring(1).split("\\|");
                for (int i = 0; i < cells.length; i++) {
                    cells[i] = cells[i].trim();
                }
                check.due("five cells in " + line, cells.length, 5);
                check.due("one row for promise " + cells[0], rows.put(cells[0], cells) == null);
            }
        }
        return rows;
    }

    private static void calls(Map<String, String[]> rows, String document) {
        List<String> numbers = new ArrayList<>();
        Matcher promise = PROMISE.matcher(document);
        while (promise.find()) {
            numbers.add(promise.group(1));
            String[] row = rows.get(promise.group(1));
            check.due("README.md has a row for promise " + promise.group(1), row != null);
            if (row != null) {
                check.due(row[1] + " is promise " + row[0],
                    row[1].equals("`" + promise.group(2).replaceAll("\\bint ", "") + "`"));
                check.due(row[1] + " answers something", !row[2].isEmpty());
                check.due(row[1] + " refuses as told: " + refusals(promise.group(3)),
                    refusals(row[3]).equals(refusals(promise.group(3))));
            }
        }
        check.due("promises", numbers.size(), 19);
        check.due("rows in the document's order", numbers.equals(new ArrayList<>(rows.keySet())));
    }

    private static List<String> refusals(String text) {
        List<String> refusals = new ArrayList<>();
        Matcher refusal = REFUSAL.matcher(text);
        while (refusal.find()) {
            refusals.add(refusal.group(1));
        }
        return refusals;
    }

    private static void examples(String[] row) throws ReflectiveOperationException {
        Matcher example = EXAMPLE.matcher(row[4]);
        int found = 0;
        while (example.find()) {
            String call = example.group(1) + "(" + example.group(2) + ")";
            check.due(call + " is an example of " + row[1], row[1].startsWith("`" + example.group(1) + "("));
            check.due("README.md's " + call, answer(example.group(1), example.group(2)), number(example.group(3)));
            found++;
        }
        check.due("examples of " + row[1], found > 0 || row[0].equals("1"));
        check.due("nothing else among them: " + row[4], EXAMPLE.matcher(row[4]).replaceAll("").matches("[, ]*"));
    }

    private static long answer(String name, String arguments) throws ReflectiveOperationException {
        ShadowSpans x = Check.with(REPORTS);
        Check.type(x, PAGE);
        Object[] numbers = arguments.isEmpty() ? new Object[0]
            : Arrays.stream(arguments.split(", ")).map(Integer::valueOf).toArray();
        Class<?>[] types = new Class<?>[numbers.length];
        Arrays.fill(types, int.class);
        Method method = ShadowSpans.class.getMethod(name, types);
        return ((Number) method.invoke(x, numbers)).longValue();
    }

    /** Each test has its row, and each row its test. */
    private static void tests(String readme) throws IOException {
        List<String> named = new ArrayList<>();
        Matcher row = Pattern.compile("(?m)^\\| (\\w+Test) \\|").matcher(readme);
        while (row.find()) {
            named.add(row.group(1));
        }
        List<String> there = new ArrayList<>();
        try (var files = Files.list(Path.of("src/test/java"))) {
            files.map(file -> file.getFileName().toString()).filter(file -> file.endsWith("Test.java"))
                .forEach(file -> there.add(file.replace(".java", "")));
        }
        named.sort(null);
        there.sort(null);
        check.due("README.md names " + named + " of " + there, named.equals(there));
    }
}
