import java.io.IOException;
import java.lang.reflect.InvocationTargetException;
import java.lang.reflect.Method;
import java.nio.charset.StandardCharsets;
import java.nio.file.Files;
import java.nio.file.Path;
import java.nio.file.Paths;
import java.util.TreeSet;
import java.util.regex.Matcher;
import java.util.regex.Pattern;
import java.util.stream.Stream;

/** README.md says what is so: its example answers as it says there, and it names the tests that .ci/run finds. */
public final class ReadmeTest {
    private static final Check CHECK = new Check();
    private static final Path TESTS = Paths.get("src/test/java");

    public static void main(String[] args) throws IOException, ReflectiveOperationException {
        String readme = read("README.md");
        example(readme);
        tests(readme);
        script(readme, read(".ci/run"));
        CHECK.end("ReadmeTest");
    }

    private static String read(String place) throws IOException {
        return new String(Files.readAllBytes(Paths.get(place)), StandardCharsets.UTF_8);
    }

    /** Each line of the example is a call; where a number ends its comment, that is the answer. */
    private static void example(String readme) throws ReflectiveOperationException {
        Matcher block = Pattern.compile("```java\n(.*?)```", Pattern.DOTALL).matcher(readme);
        CHECK.due("an example", block.find(), true);
        String code = block.group(1);
        CHECK.due("it makes an object", code.contains("PivotDocks x = new PivotDocks();\n"), true);
        PivotDocks x = new PivotDocks();
        StringBuilder fed = new StringBuilder();
        int told = 0;
        Matcher line = Pattern.compile("(?m)^x\\.(\\w+)\\(([^)]*)\\);(?: *// .*?(-?\\d+)(?: docks)?)?$").matcher(code);
        while (line.find()) {
            String[] given = line.group(2).isEmpty() ? new String[0] : line.group(2).split(", ");
            long answer = call(x, line.group(1), given);
            if (line.group(1).equals("feed")) {
                putLetters(fed, given);
            } else {
                told++;
                CHECK.due("the line tells an answer: " + line.group(), line.group(3) != null, true);
                CHECK.due(line.group(), answer, line.group(3) == null ? 0 : Long.parseLong(line.group(3)));
            }
        }
        CHECK.due("lines of the example", told + fed.length() / 20 + 2, code.split("\n").length);
        CHECK.due("the bytes are those of the text told above them", code.contains("\"" + fed.toString().trim() + "\""), true);
    }

    private static void putLetters(StringBuilder fed, String[] numbers) {
        for (String number : numbers) {
            int four = Integer.decode(number);
            for (int shift = 24; shift >= 0; shift -= 8) {
                fed.append((char) (four >> shift & 255));
            }
        }
    }

    private static long call(PivotDocks x, String name, String[] given) throws ReflectiveOperationException {
        for (Method m : PivotDocks.class.getMethods()) {
            if (m.getName().equals(name) && m.getParameterCount() == given.length) {
                Object[] arguments = new Object[given.length];
                for (int i = 0; i < given.length; i++) {
                    boolean word = m.getParameterTypes()[i] == boolean.class;
                    arguments[i] = word ? (Object) Boolean.valueOf(given[i]) : (Object) Integer.decode(given[i]);
                }
                return asNumber(m, x, arguments);
            }
        }
        throw new NoSuchMethodException(name);
    }

    private static long asNumber(Method m, PivotDocks x, Object[] arguments) throws ReflectiveOperationException {
        try {
            Object answer = m.invoke(x, arguments);
            return answer instanceof Boolean ? ((Boolean) answer ? 1 : 0) : ((Number) answer).longValue();
        } catch (InvocationTargetException e) {
            return Check.THROWS;
        }
    }

    private static void tests(String readme) throws IOException {
        TreeSet<String> named = new TreeSet<>();
        Matcher name = Pattern.compile("`(\\w+Test)`").matcher(readme);
        while (name.find()) {
            named.add(name.group(1));
        }
        TreeSet<String> there = new TreeSet<>();
        try (Stream<Path> files = Files.list(TESTS)) {
            files.map(f -> f.getFileName().toString()).filter(f -> f.endsWith("Test.java"))
                .forEach(f -> there.add(f.substring(0, f.length() - 5)));
        }
        CHECK.same("the tests that README.md names", named.toString(), there.toString());
    }

    /** What README.md says of .ci/run stands in it. */
    private static void script(String readme, String run) {
        String[][] said = {{"with all warnings on", "javac -Xlint:all -Werror"}, {"src/test/java/*Test.java", "in src/test/java/*Test.java;"},
            {"every file under `../shared/tests`", "in ../shared/tests/*.java;"}, {"fails if one fails", "exit \"$failed\""}};
        CHECK.due("README.md names .ci/run", readme.contains("`.ci/run`"), true);
        CHECK.due(".ci/run can be run", Files.isExecutable(Paths.get(".ci/run")), true);
        for (String[] pair : said) {
            CHECK.due("README.md says: " + pair[0], readme.replaceAll("\\s+", " ").contains(pair[0]), true);
            CHECK.due(".ci/run has: " + pair[1], run.contains(pair[1]), true);
        }
    }
}
