import java.io.IOException;
import java.lang.reflect.Method;
import java.lang.reflect.Modifier;
import java.nio.file.Files;
import java.nio.file.Path;
import java.util.ArrayList;
import java.util.List;
import java.util.Map;
import java.util.regex.Matcher;
import java.util.regex.Pattern;

/** The examples of README.md answer as they say, and README.md tells of each call of the face. */
public final class ReadmeTest {
    private static final int EXAMPLES = 4, LEAST_ANSWERS = 40;
    private static final Pattern CALL = Pattern.compile("x\\.(\\w+)\\(([-0-9, ]*)\\); +// (-?\\d+|NONE|BAD|STATE|FULL)\\b.*");
    private static final Pattern TOWN = Pattern.compile("String town = \"(.*)\";");
    private static final Map<String, Integer> NAMES = Map.of("NONE", StairTunes.NONE, "BAD", StairTunes.BAD,
            "STATE", StairTunes.STATE, "FULL", StairTunes.FULL);
    private static final Due DUE = new Due();

    private StairTunes x;
    private String tape = "";
    private int answers;

    public static void main(String[] args) throws IOException, ReflectiveOperationException {
        String text = Files.readString(Path.of("README.md"));
        List<String> examples = examples(text);
        DUE.is("examples", examples.size(), EXAMPLES);
        ReadmeTest test = new ReadmeTest();
        for (String example : examples) {
            test.oneExample(example);
        }
        DUE.is("answers of the examples, " + LEAST_ANSWERS + " at least", test.answers >= LEAST_ANSWERS);
        eachCall(text);
        eachRefusal(text);
        DUE.end();
    }

    private static List<String> examples(String text) {
        List<String> examples = new ArrayList<>();
        Matcher m = Pattern.compile("```java\n(.*?)```", Pattern.DOTALL).matcher(text);
        while (m.find()) {
            examples.add(m.group(1));
        }
        return examples;
    }

    private void oneExample(String example) throws ReflectiveOperationException {
        for (String line : example.split("\n")) {
            Matcher town = TOWN.matcher(line);
            Matcher call = CALL.matcher(line);
            if (line.equals("StairTunes x = new StairTunes();")) {
                x = new StairTunes();
            } else if (town.matches()) {
                tape = town.group(1);
            } else if (line.trim().equals("x.feed(town.charAt(i));")) {
                Due.feed(x, tape);
            } else if (call.matches()) {
                DUE.is(line, answer(call.group(1), call.group(2)), number(call.group(3)));
                answers++;
            } else {
                DUE.is("a line of no known form: " + line, line.startsWith("for (int i = 0; ") || line.equals("}"));
            }
        }
    }

    private static long number(String told) {
        return NAMES.containsKey(told) ? NAMES.get(told) : Long.parseLong(told);
    }

    private long answer(String name, String told) throws ReflectiveOperationException {
        String[] numbers = told.isEmpty() ? new String[0] : told.split(", ");
        Class<?>[] types = new Class<?>[numbers.length];
        Object[] given = new Object[numbers.length];
        for (int k = 0; k < numbers.length; k++) {
            types[k] = int.class;
            given[k] = Integer.valueOf(numbers[k]);
        }
        return ((Number) StairTunes.class.getMethod(name, types).invoke(x, given)).longValue();
    }

    private static void eachCall(String text) {
        for (Method m : StairTunes.class.getDeclaredMethods()) {
            if (!Modifier.isPublic(m.getModifiers())) {
                continue;
            }
            Matcher row = Pattern.compile("\n\\| `" + m.getName() + "\\(([^)]*)\\)` \\| ").matcher(text);
            boolean told = row.find();
            DUE.is("README.md tells of " + m.getName(), told);
            int numbers = !told || row.group(1).isEmpty() ? 0 : row.group(1).split(", ").length;
            DUE.is("numbers that README.md tells of " + m.getName(), numbers, m.getParameterCount());
        }
    }

    private static void eachRefusal(String text) {
        for (String name : List.of("BAD", "STATE", "FULL")) {
            DUE.is("README.md tells of " + name, text.contains("| `" + name + "` | " + NAMES.get(name) + " |"));
        }
        DUE.is("README.md tells of NONE", text.contains("`NONE` (" + StairTunes.NONE + ")"));
    }
}
