import java.io.IOException;
import java.lang.reflect.Field;
import java.lang.reflect.Method;
import java.lang.reflect.Modifier;
import java.nio.file.Files;
import java.nio.file.Path;
import java.util.ArrayList;
import java.util.List;
import java.util.Set;
import java.util.TreeSet;
import java.util.regex.Matcher;
import java.util.regex.Pattern;

// README.md says of the class what the class does: its example, its calls, its constants, its ranges.
public final class ReadmeTest extends Answers {
    private static final Pattern CALL = Pattern.compile("f\\.(\\w+)\\(([^)]*)\\); +// (-?\\d+|[A-Z_]+)(:.*)?");
    private static final Pattern CALL_ROW = Pattern.compile("\\| `(\\w+)\\(([^)]*)\\)` \\|.*");
    private static final Pattern CONSTANT_ROW = Pattern.compile("\\| `([A-Z_]+)` \\| (-?\\d+) \\|.*");
    private static final Pattern OP_ROW = Pattern.compile("\\| (\\d) \\| [^|]+ \\| ([^|]+) \\| ([^|]+) \\|.*");
    private static final int[] TRIED = {MIN, -1, 0, 1, 2, 3, 4, 15, 16, 17, MAX};

    private static SecretFlows made = new SecretFlows();

    private static int[] numbers(String text) {
        String[] parts = text.isEmpty() ? new String[0] : text.split(", ");
        int[] numbers = new int[parts.length];
        for (int i = 0; i < parts.length; i++) {
            numbers[i] = Integer.parseInt(parts[i]);
        }
        return numbers;
    }

    private static int call(String name, int[] arguments) throws ReflectiveOperationException {
        Class<?>[] types = new Class<?>[arguments.length];
        Object[] boxed = new Object[arguments.length];
        for (int i = 0; i < arguments.length; i++) {
            types[i] = int.class;
            boxed[i] = arguments[i];
        }
        return (int) SecretFlows.class.getMethod(name, types).invoke(made, boxed);
    }

    private static int answer(String text) throws ReflectiveOperationException {
        boolean isName = Character.isLetter(text.charAt(0));
        return isName ? SecretFlows.class.getField(text).getInt(null) : Integer.parseInt(text);
    }

    private static void followExampleLine(String line, Set<String> called) throws ReflectiveOperationException {
        Matcher told = CALL.matcher(line);
        if (line.equals("SecretFlows f = new SecretFlows();")) {
            made = new SecretFlows();
        } else if (told.matches()) {
            due(line, call(told.group(1), numbers(told.group(2))), answer(told.group(3)));
            called.add(told.group(1));
        } else if (!line.isEmpty()) {
            wrong("a line of the example that this test cannot follow: " + line);
        }
    }

    private static void exampleAnswersAsTold(List<String> lines) throws ReflectiveOperationException {
        sentence("the example");
        Set<String> called = new TreeSet<>();
        boolean inExample = false;
        for (String line : lines) {
            if (line.startsWith("```")) {
                inExample = line.equals("```java");
            } else if (inExample) {
                followExampleLine(line, called);
            }
        }
        Set<String> all = new TreeSet<>();
        for (Method method : SecretFlows.class.getDeclaredMethods()) {
            if (Modifier.isPublic(method.getModifiers())) {
                all.add(method.getName());
            }
        }
        if (!called.equals(all)) {
            wrong("it calls " + called + ", the class has " + all);
        }
    }

    private static void tablesNameEachCall(List<String> lines) {
        sentence("the tables of the calls");
        List<String> told = new ArrayList<>();
        for (String line : lines) {
            Matcher row = CALL_ROW.matcher(line);
            if (row.matches()) {
                int count = row.group(2).isEmpty() ? 0 : row.group(2).split(", ").length;
                told.add(row.group(1) + " of " + count);
            }
        }
        Set<String> all = new TreeSet<>();
        for (Method method : SecretFlows.class.getDeclaredMethods()) {
            if (Modifier.isPublic(method.getModifiers())) {
                all.add(method.getName() + " of " + method.getParameterCount());
            }
        }
        if (told.size() != all.size() || !all.equals(new TreeSet<>(told))) {
            wrong("they name " + told + ", the class has " + all);
        }
    }

    private static void tableNamesEachConstant(List<String> lines) throws ReflectiveOperationException {
        sentence("the table of the constants");
        Set<String> told = new TreeSet<>();
        for (String line : lines) {
            Matcher row = CONSTANT_ROW.matcher(line);
            if (row.matches()) {
                told.add(row.group(1) + " = " + row.group(2));
            }
        }
        Set<String> all = new TreeSet<>();
        for (Field field : SecretFlows.class.getDeclaredFields()) {
            if (Modifier.isPublic(field.getModifiers())) {
                all.add(field.getName() + " = " + field.getInt(null));
            }
        }
        if (!told.equals(all)) {
            wrong("it names " + told + ", the class has " + all);
        }
    }

    private static boolean isIn(String range, int value) {
        if (range.equals("any")) {
            return true;
        }
        String[] ends = range.split(" to ");
        return value >= Integer.parseInt(ends[0]) && value <= Integer.parseInt(ends[1]);
    }

    private static void tableTellsRanges(List<String> lines) {
        sentence("the table of the instructions");
        Set<String> ops = new TreeSet<>();
        for (String line : lines) {
            Matcher row = OP_ROW.matcher(line);
            if (row.matches()) {
                ops.add(row.group(1));
                int op = Integer.parseInt(row.group(1));
                for (int r : TRIED) {
                    for (int x : TRIED) {
                        boolean taken = isIn(row.group(2), r) && isIn(row.group(3), x);
                        due("put(" + op + ", " + r + ", " + x + ")", new SecretFlows().put(op, r, x), taken ? 1 : BAD_ARG);
                    }
                }
            }
        }
        due("the ops that it has", ops.size(), HALT + 1);
    }

    public static void main(String[] args) throws IOException, ReflectiveOperationException {
        List<String> lines = Files.readAllLines(Path.of("README.md"));
        exampleAnswersAsTold(lines);
        tablesNameEachCall(lines);
        tableNamesEachConstant(lines);
        tableTellsRanges(lines);
        endTest();
    }
}
