import java.io.IOException;
import java.lang.reflect.Method;
import java.nio.file.Files;
import java.nio.file.Path;
import java.util.ArrayList;
import java.util.HashMap;
import java.util.List;
import java.util.Map;
import java.util.regex.Matcher;
import java.util.regex.Pattern;

/** The example of README.md gives the answers that it tells, and its tables name every call. */
public final class ReadmeTest {
    private static final Pattern EXAMPLE = Pattern.compile("(?s)```java\n(.*?)```");
    private static final Pattern LINE =
        Pattern.compile("(?:int (\\w+) = )?x\\.(\\w+)\\(([^)]*)\\);\\s+// (\\w+)(?::.*)?");
    private static final Pattern ROW = Pattern.compile("(?m)^\\| `(\\w+\\([^)]*\\))`");
    private static final Pattern FACE = Pattern.compile("(?m)^    public (?:int|long) (\\w+)\\(([^)]*)\\);$");
    private static final Pattern CONSTANT = Pattern.compile("`([A-Z_]+)` \\((-?\\d+)\\)");

    private static int wrong = 0;

    private static void check(boolean good, String what) {
        if (!good) {
            wrong++;
            System.out.println("ReadmeTest: " + what);
        }
    }

    public static void main(String[] args) throws IOException, ReflectiveOperationException {
        String readme = Files.readString(Path.of("README.md"));
        Matcher example = EXAMPLE.matcher(readme);
        check(example.find(), "there is no example");
        if (wrong == 0) {
            playExample(example.group(1).split("\n"));
        }
        checkTables(readme, Files.readString(Path.of("../shared/DOC.md")));
        checkConstants(readme);
        System.out.println(wrong == 0 ? "ReadmeTest: it tells what is so" : "ReadmeTest: " + wrong + " wrong");
        if (wrong != 0) {
            System.exit(1);
        }
    }

    private static void playExample(String[] lines) throws ReflectiveOperationException {
        check(lines[0].equals("FeatureClashes x = new FeatureClashes();"), "the example begins with " + lines[0]);
        FeatureClashes x = new FeatureClashes();
        Map<String, Integer> names = new HashMap<>();
        for (int i = 1; i < lines.length; i++) {
            Matcher line = LINE.matcher(lines[i]);
            if (!line.matches()) {
                check(false, "no call with its answer: " + lines[i]);
                continue;
            }
            int got = call(x, line.group(2), line.group(3), names);
            check(got == numberOf(line.group(4), names), lines[i] + " answered " + got);
            if (line.group(1) != null) {
                names.put(line.group(1), got);
            }
        }
    }

    private static int call(FeatureClashes x, String name, String arguments, Map<String, Integer> names)
            throws ReflectiveOperationException {
        List<Object> values = new ArrayList<>();
        for (String argument : arguments.isEmpty() ? new String[0] : arguments.split(", ")) {
            values.add(numberOf(argument, names));
        }
        for (Method method : FeatureClashes.class.getMethods()) {
            if (method.getName().equals(name) && method.getParameterCount() == values.size()) {
                return (int) method.invoke(x, values.toArray());
            }
        }
        throw new NoSuchMethodException(name);
    }

    /** A number, a name of the example, or a constant of the class. */
    private static int numberOf(String text, Map<String, Integer> names) throws ReflectiveOperationException {
        if (text.matches("-?\\d+")) {
            return Integer.parseInt(text);
        }
        return names.containsKey(text) ? names.get(text) : FeatureClashes.class.getField(text).getInt(null);
    }

    private static void checkTables(String readme, String document) {
        List<String> told = new ArrayList<>();
        for (Matcher row = ROW.matcher(readme); row.find();) {
            told.add(row.group(1));
        }
        List<String> due = new ArrayList<>();
        for (Matcher call = FACE.matcher(document); call.find();) {
            due.add(call.group(1) + "(" + call.group(2).replaceAll("(int|boolean) ", "") + ")");
        }
        check(due.size() == 34, "the document's face has " + due.size() + " calls");
        check(told.equals(due), "the tables name " + told + ", the document " + due);
    }

    private static void checkConstants(String readme) throws ReflectiveOperationException {
        int count = 0;
        for (Matcher constant = CONSTANT.matcher(readme); constant.find(); count++) {
            int due = FeatureClashes.class.getField(constant.group(1)).getInt(null);
            check(due == Integer.parseInt(constant.group(2)), constant.group() + " is " + due);
        }
        check(count == 6, count + " constants are told with their numbers");
    }
}
