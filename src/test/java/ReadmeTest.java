import java.io.IOException;
import java.lang.reflect.Method;
import java.lang.reflect.Modifier;
import java.nio.file.DirectoryStream;
import java.nio.file.Files;
import java.nio.file.Path;
import java.util.ArrayList;
import java.util.List;
import java.util.Set;
import java.util.TreeSet;
import java.util.regex.Matcher;
import java.util.regex.Pattern;

/** What README.md shows of the class's use, and of the tests, is as it is. To be run in the project's folder. */
public final class ReadmeTest {
    private static final String MADE = "TreeCodes tree = new TreeCodes();";
    private static final Pattern SHOWN =
        Pattern.compile("tree\\.(\\w+)\\((.*)\\); +// (-?\\d+|TreeCodes\\.NONE|TreeCodes\\.FULL)(?=$|[ ,:]).*");
    private static final Pattern CALL_IN_TABLE = Pattern.compile("`(\\w+)\\((.*?)\\)`");
    private static final Pattern TEST_NAME = Pattern.compile("`(\\w+Test)`");
    private static final Pattern COMMAND = Pattern.compile(" {4}(\\S+)");

    private static final Due due = new Due();

    public static void main(String[] args) throws IOException, ReflectiveOperationException {
        List<String> lines = Files.readAllLines(Path.of("README.md"));
        shownCallsAnswerAsShown(between(lines, "```java", "```"));
        tableHasEveryCall(between(lines, "| --- | --- |", ""));
        constantsAreAsSaid(String.join(" ", lines));
        testsAreRunAsSaid(between(lines, "## Tests", "- .*"));
        testsAreTheNamedOnes(String.join(" ", lines));
        due.end();
    }

    /** The lines after the first that is the one given, up to the next that is as the other one says. */
    private static List<String> between(List<String> lines, String first, String end) {
        List<String> part = new ArrayList<>();
        for (int i = lines.indexOf(first) + 1; i < lines.size() && !lines.get(i).matches(end); i++) {
            part.add(lines.get(i));
        }
        return part;
    }

    private static void shownCallsAnswerAsShown(List<String> shown) throws ReflectiveOperationException {
        due.about("README.md: behind each call stands its answer");
        due.holds("an object is made first", !shown.isEmpty() && shown.get(0).equals(MADE));
        TreeCodes tree = new TreeCodes();
        Set<String> names = new TreeSet<>();
        for (String line : shown.subList(1, shown.size())) {
            Matcher call = SHOWN.matcher(line);
            due.holds("is a call with its answer: " + line, call.matches());
            if (call.matches()) {
                names.add(withCount(call.group(1), call.group(2)));
                due.is(line, answer(tree, call.group(1), call.group(2)), number(call.group(3)));
            }
        }
        due.holds("every call of the class is shown, not " + names + " alone", names.equals(callsOfTheClass()));
    }

    private static int answer(TreeCodes tree, String name, String arguments) throws ReflectiveOperationException {
        Object[] numbers = split(arguments).stream().map(Integer::valueOf).toArray();
        Class<?>[] types = split(arguments).stream().map(x -> int.class).toArray(Class<?>[]::new);
        return (Integer) TreeCodes.class.getMethod(name, types).invoke(tree, numbers);
    }

    private static int number(String shown) {
        return switch (shown) {
            case "TreeCodes.NONE" -> TreeCodes.NONE;
            case "TreeCodes.FULL" -> TreeCodes.FULL;
            default -> Integer.parseInt(shown);
        };
    }

    private static List<String> split(String arguments) {
        return arguments.isEmpty() ? List.of() : List.of(arguments.split(", "));
    }

    private static String withCount(String name, String arguments) {
        return name + " of " + split(arguments).size();
    }

    private static Set<String> callsOfTheClass() {
        Set<String> calls = new TreeSet<>();
        for (Method method : TreeCodes.class.getDeclaredMethods()) {
            if (Modifier.isPublic(method.getModifiers())) {
                calls.add(method.getName() + " of " + method.getParameterCount());
            }
        }
        return calls;
    }

    private static void tableHasEveryCall(List<String> rows) {
        due.about("README.md: the table of the calls");
        Set<String> names = new TreeSet<>();
        for (String row : rows) {
            Matcher call = CALL_IN_TABLE.matcher(row.split("\\|")[1]);
            while (call.find()) {
                due.holds("once in the table: " + call.group(), names.add(withCount(call.group(1), call.group(2))));
            }
        }
        due.holds("every call of the class, and no other, is in " + names, names.equals(callsOfTheClass()));
    }

    private static void constantsAreAsSaid(String text) {
        due.about("README.md: the constants");
        due.holds("NONE is as said", text.contains("`NONE` is " + TreeCodes.NONE + " "));
        due.holds("FULL is as said", text.contains("`FULL` is " + TreeCodes.FULL + "."));
    }

    private static void testsAreRunAsSaid(List<String> lines) {
        due.about("README.md: how the tests are run");
        List<String> commands = new ArrayList<>();
        for (String line : lines) {
            Matcher command = COMMAND.matcher(line);
            if (command.matches()) {
                commands.add(command.group(1));
            }
        }
        due.holds("there is one command, not " + commands, commands.equals(List.of(".ci/run")));
        due.holds(".ci/run can be run", Files.isExecutable(Path.of(".ci/run")));
    }

    private static void testsAreTheNamedOnes(String text) throws IOException {
        due.about("README.md: the tests by name");
        Set<String> named = new TreeSet<>();
        Matcher name = TEST_NAME.matcher(text);
        while (name.find()) {
            named.add(name.group(1) + ".java");
        }
        Set<String> there = new TreeSet<>();
        try (DirectoryStream<Path> files = Files.newDirectoryStream(Path.of("src/test/java"), "*Test.java")) {
            files.forEach(file -> there.add(file.getFileName().toString()));
        }
        due.holds("the tests " + there + " are the named ones " + named, there.equals(named));
    }
}
