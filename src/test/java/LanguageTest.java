import java.io.IOException;
import java.lang.reflect.Field;
import java.lang.reflect.Method;
import java.lang.reflect.Modifier;
import java.nio.file.Files;
import java.nio.file.Path;
import java.util.Set;
import java.util.TreeSet;
import java.util.regex.Matcher;
import java.util.regex.Pattern;

/**
 * Rules of LANGUAGE.md that are easily seen by a program, and that no call ever throws. The others must be read, as
 * those on recursion, on the ends of loops and on calls inside arguments. To be run in the project's folder.
 */
public final class LanguageTest {
    private static final Path SOURCE = Path.of("src/main/java/TreeCodes.java");
    private static final Pattern COMMENT = Pattern.compile("/\\*.*?\\*/|//[^\\n]*", Pattern.DOTALL);
    private static final Pattern WORD = Pattern.compile("[A-Za-z_]\\w*");
    private static final Set<String> WORDS_LEFT_OUT = Set.of(
        "package", "import", "class", "interface", "enum", "record", "extends", "implements", "float", "double", "null",
        "throw", "throws", "try", "catch", "finally", "synchronized", "assert", "instanceof", "var", "super");
    private static final Set<Class<?>> TYPES = Set.of(
        int.class, long.class, short.class, byte.class, char.class, boolean.class,
        int[].class, long[].class, short[].class, byte[].class, char[].class, boolean[].class);
    private static final int MOST_FIELDS = 40;
    private static final int MOST_PARAMETERS = 7;
    private static final int OBJECTS = 20;
    private static final int CALLS = 20_000;

    private static final Due due = new Due();

    public static void main(String[] args) throws IOException {
        String code = COMMENT.matcher(Files.readString(SOURCE)).replaceAll(" ");
        wordsOfTheSource(code);
        arraysOfTheSource(code);
        fieldsOfTheClass();
        methodsOfTheClass();
        noCallThrows();
        due.end();
    }

    private static void wordsOfTheSource(String code) {
        due.about("LANGUAGE.md 1, 2, 3 and 6: what is left out");
        String head = "public final class TreeCodes {";
        due.holds("the source begins with the class", code.strip().startsWith(head));
        Matcher word = WORD.matcher(code.replace(head, ""));
        while (word.find()) {
            String found = word.group();
            due.holds("the word may be used: " + found, !WORDS_LEFT_OUT.contains(found));
            // Names of classes begin with a capital letter, and only constants have no small ones.
            boolean ofAClass = Character.isUpperCase(found.charAt(0)) && !found.equals(found.toUpperCase());
            due.holds("no other class is named: " + found, !ofAClass || found.equals("TreeCodes"));
        }
        for (String sign : new String[] {"->", "::", "\"", "@"}) {
            due.holds("the sign is not used: " + sign, !code.contains(sign));
        }
    }

    private static void arraysOfTheSource(String code) {
        due.about("LANGUAGE.md 4: arrays are made in the fields' initialisers");
        for (String line : code.split("\n")) {
            boolean makes = line.matches(".*\\bnew\\b.*");
            due.holds("made in a field: " + line,
                !makes || line.matches(" {4}private final (\\w+)\\[\\] \\w+ = new \\1\\[\\w+\\];\\s*"));
        }
    }

    private static void fieldsOfTheClass() {
        due.about("LANGUAGE.md 2, 5 and 10: fields");
        int fields = 0;
        for (Field field : TreeCodes.class.getDeclaredFields()) {
            Class<?> type = field.getType();
            due.holds("a type of rule 2: " + field, TYPES.contains(type));
            if (Modifier.isStatic(field.getModifiers())) {
                due.holds("static, so final: " + field, Modifier.isFinal(field.getModifiers()));
                due.holds("static, so int or long: " + field, type == int.class || type == long.class);
            } else {
                fields++;
            }
        }
        due.holds("at most " + MOST_FIELDS + " fields: " + fields, fields <= MOST_FIELDS);
    }

    private static void methodsOfTheClass() {
        due.about("LANGUAGE.md 1, 2 and 10: methods");
        Set<String> publicNames = new TreeSet<>();
        for (Method method : TreeCodes.class.getMethods()) {
            publicNames.add(method.getName());
        }
        for (Method method : TreeCodes.class.getDeclaredMethods()) {
            boolean isPrivate = Modifier.isPrivate(method.getModifiers());
            due.holds("no public one has its name: " + method, !isPrivate || !publicNames.contains(method.getName()));
            due.holds("at most " + MOST_PARAMETERS + " parameters: " + method,
                method.getParameterCount() <= MOST_PARAMETERS);
            due.holds("no array is answered: " + method, !method.getReturnType().isArray());
            for (Class<?> type : method.getParameterTypes()) {
                due.holds("a type of rule 2: " + type + " in " + method, TYPES.contains(type));
            }
        }
    }

    private static void noCallThrows() {
        due.about("LANGUAGE.md 7: no call may ever throw");
        NumberRow row = new NumberRow();
        for (int object = 0; object < OBJECTS; object++) {
            TreeCodes x = new TreeCodes();
            int opens = 1 + row.below(6);
            // What is answered past the 512th call is free, so the answers are not looked at.
            for (int i = 0; i < CALLS; i++) {
                Call call = anyCall(row, opens);
                int v = anyArgument(row);
                int w = anyArgument(row);
                due.holds(() -> call.name() + " with " + v + ", " + w + " does not throw", isAnswered(x, call, v, w));
            }
        }
    }

    private static Call anyCall(NumberRow row, int opens) {
        if (row.below(2) == 0) {
            return Call.QUESTIONS.get(row.below(Call.QUESTIONS.size()));
        }
        int pick = row.below(opens + 2);
        return Call.WRITING.get(pick < Call.WRITING.size() ? pick : 0);
    }

    private static int anyArgument(NumberRow row) {
        return row.below(4) == 0 ? row.any() : row.below(72) - 4;
    }

    private static boolean isAnswered(TreeCodes x, Call call, int v, int w) {
        try {
            call.codes().answer(x, v, w);
            return true;
        } catch (RuntimeException | Error thrown) {
            return false;
        }
    }
}
