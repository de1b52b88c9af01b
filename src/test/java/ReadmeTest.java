import java.io.IOException;
import java.lang.reflect.InvocationTargetException;
import java.lang.reflect.Method;
import java.nio.file.Files;
import java.nio.file.Path;
import java.util.HashMap;
import java.util.List;
import java.util.Map;
import java.util.regex.Matcher;
import java.util.regex.Pattern;

/** README.md tells the class as it is: its example's answers, and a row of its table for each call. */
public final class ReadmeTest {
    private static final Due DUE = new Due("ReadmeTest");
    /** A call of the example: the name that its answer gets, the method, its inputs, the answer told. */
    private static final Pattern CALL = Pattern.compile(
            "(?:int (\\w+) = )?bench\\.(\\w+)\\((.*?)\\);\\s*// (-?\\d+|true|false)\\b.*");

    private ReadmeTest() {
    }

    public static void main(String[] args) throws IOException, ReflectiveOperationException {
        List<String> lines = Files.readAllLines(Path.of("README.md"));
        example(lines.subList(lines.indexOf("```java") + 1, lines.size()));
        table(String.join("\n", lines));
        DUE.end();
    }

    private static void example(List<String> lines) throws ReflectiveOperationException {
        FlowMeters bench = new FlowMeters();
        Map<String, Object> names = new HashMap<>(Map.of("true", true, "false", false));
        DUE.is("it begins with a new object", lines.get(0).equals("FlowMeters bench = new FlowMeters();"), true);
        for (String line : lines.subList(1, lines.indexOf("```"))) {
            if (line.isEmpty()) {
                continue;
            }
            Matcher call = CALL.matcher(line);
            boolean understood = call.matches();
            DUE.is("a call with its answer: " + line, understood, true);
            if (understood) {
                String got = answer(bench, call.group(2), call.group(3), names);
                DUE.is(line + " answered " + got, got.equals(call.group(4)), true);
                if (call.group(1) != null) {
                    names.put(call.group(1), Integer.valueOf(got));
                }
            }
        }
    }

    private static String answer(FlowMeters bench, String name, String inputs, Map<String, Object> names)
            throws InvocationTargetException, IllegalAccessException {
        String[] words = inputs.isEmpty() ? new String[0] : inputs.split(", ");
        Object[] values = new Object[words.length];
        for (int i = 0; i < words.length; i++) {
            values[i] = names.containsKey(words[i]) ? names.get(words[i]) : Integer.valueOf(words[i]);
        }
        for (Method m : FlowMeters.class.getMethods()) {
            if (m.getName().equals(name) && m.getParameterCount() == values.length) {
                return String.valueOf(m.invoke(bench, values));
            }
        }
        return "no such call";
    }

    private static void table(String text) {
        for (Method m : FlowMeters.class.getMethods()) {
            if (m.getDeclaringClass() == FlowMeters.class) {
                Pattern cell = Pattern.compile("(?m)^\\|[^|]*`" + m.getName() + "\\(([^)]*)\\)`");
                Matcher row = cell.matcher(text);
                boolean found = row.find();
                DUE.is("the table has " + m.getName(), found, true);
                String inputs = found ? row.group(1) : "";
                DUE.is("the table's inputs of " + m.getName(),
                        inputs.isEmpty() ? 0 : inputs.split(", ").length, m.getParameterCount());
            }
        }
    }
}
