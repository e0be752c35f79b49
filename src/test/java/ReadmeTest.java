import java.io.IOException;
import java.lang.reflect.Method;
import java.nio.file.Files;
import java.nio.file.Path;
import java.util.ArrayList;
import java.util.List;
import java.util.TreeSet;
import java.util.regex.Matcher;
import java.util.regex.Pattern;

/** README.md: the example answers what it tells there, and its calls and tests are those that stand. */
public final class ReadmeTest {
    private static final Check CHECK = new Check("readme");
    private static final Pattern CALL = Pattern.compile("waves\\.(\\w+)\\(([^)]*)\\);\\s*// (-?\\d+).*");

    /** The text between the signs that open and close the page's only example. */
    private static List<String> example(String page) {
        String[] parts = page.split("```java\n|```\n");
        CHECK.due("examples", 1, parts.length / 2);
        return List.of(parts[1].split("\n"));
    }

    private static Method methodOf(String name, int arguments) {
        for (Method method : SleepWaves.class.getMethods()) {
            if (method.getName().equals(name) && method.getParameterCount() == arguments) {
                return method;
            }
        }
        throw new IllegalStateException("README.md calls " + name);
    }

    private static Object[] numbers(String arguments) {
        String[] words = arguments.isEmpty() ? new String[0] : arguments.split(", ");
        Object[] numbers = new Object[words.length];
        for (int i = 0; i < words.length; i++) {
            numbers[i] = Integer.decode(words[i]);
        }
        return numbers;
    }

    private static void itsExampleAnswersSo(String page) throws ReflectiveOperationException {
        SleepWaves waves = new SleepWaves();
        int calls = 0;
        for (String line : example(page)) {
            Matcher call = CALL.matcher(line);
            if (call.matches()) {
                Object[] arguments = numbers(call.group(2));
                Object answer = methodOf(call.group(1), arguments.length).invoke(waves, arguments);
                CHECK.due(line, Integer.parseInt(call.group(3)), (Integer) answer);
                calls++;
            } else {
                boolean isNone = line.startsWith("// ") || line.equals("SleepWaves waves = new SleepWaves();");
                CHECK.due("a line without a call: " + line, true, isNone);
            }
        }
        CHECK.due("calls were made", true, calls > 10);
    }

    private static void itNamesEveryCall(String page, String document) {
        Matcher method = Pattern.compile("public (?:int|boolean) (\\w+)\\(([^)]*)\\);").matcher(document);
        TreeSet<String> due = new TreeSet<>();
        while (method.find()) {
            due.add(method.group(1) + "(" + method.group(2).replaceAll("(int|boolean) ", "") + ")");
        }
        TreeSet<String> told = new TreeSet<>();
        Matcher call = Pattern.compile("`(\\w+\\([^)`]*\\))`").matcher(page);
        while (call.find()) {
            told.add(call.group(1));
        }
        CHECK.due("31 methods in the document", 31, due.size());
        CHECK.due("the calls " + told, true, told.equals(due));
    }

    private static void itNamesEveryTest(String page) throws IOException {
        TreeSet<String> told = new TreeSet<>();
        Matcher test = Pattern.compile("`(\\w+Test)`").matcher(page);
        while (test.find()) {
            told.add(test.group(1));
        }
        TreeSet<String> due = new TreeSet<>();
        List<Path> files = new ArrayList<>();
        try (var directory = Files.newDirectoryStream(Path.of("src/test/java"), "*Test.java")) {
            directory.forEach(files::add);
        }
        for (Path file : files) {
            due.add(file.getFileName().toString().replace(".java", ""));
        }
        CHECK.due("the tests " + told, true, told.equals(due));
    }

    public static void main(String[] args) throws IOException, ReflectiveOperationException {
        String page = Files.readString(Path.of("README.md"));
        itsExampleAnswersSo(page);
        itNamesEveryCall(page, Files.readString(Path.of("../shared/DOC.md")));
        itNamesEveryTest(page);
        CHECK.end();
    }
}
