import java.io.IOException;
import java.lang.reflect.Method;
import java.lang.reflect.Modifier;
import java.nio.file.Files;
import java.nio.file.Path;
import java.util.ArrayList;
import java.util.Arrays;
import java.util.List;
import java.util.Set;
import java.util.TreeSet;
import java.util.regex.Matcher;
import java.util.regex.Pattern;

/** README.md lists every call of the class, and the calls of its example answer what stands behind them. */
public final class ReadmeTest {
    private static final String NEW_OBJECT = "CollationDesk desk = new CollationDesk();";
    private static final Pattern LISTED = Pattern.compile("^\\| `int (\\w+)\\(([^)]*)\\)` \\|[^|]+\\|[^|]+\\|$");
    private static final Pattern CALL = Pattern.compile("^desk\\.(\\w+)\\(([-\\d, ]+)\\); +// (-?\\d+)(:.*)?$");

    private static Set<String> callsOfTheClass() {
        Set<String> calls = new TreeSet<>();
        for (Method method : CollationDesk.class.getDeclaredMethods()) {
            if (Modifier.isPublic(method.getModifiers())) {
                calls.add(method.getName() + " " + method.getParameterCount());
            }
        }
        return calls;
    }

    private static void checkListedCalls(List<String> lines) {
        AskedDesk.tests("README: the calls");
        List<String> listed = new ArrayList<>();
        for (String line : lines) {
            Matcher row = LISTED.matcher(line);
            if (row.matches()) {
                listed.add(row.group(1) + " " + row.group(2).split(",").length);
            }
        }
        Set<String> due = callsOfTheClass();
        if (listed.size() != due.size() || !new TreeSet<>(listed).equals(due)) {
            AskedDesk.isWrong("lists " + listed + ", due is " + due);
        }
    }

    private static void checkExample(List<String> lines) {
        AskedDesk.tests("README: the example");
        Set<String> missing = callsOfTheClass();
        AskedDesk desk = new AskedDesk();
        for (String line : lines) {
            Matcher call = CALL.matcher(line);
            if (call.matches()) {
                int[] with = Arrays.stream(call.group(2).split(", ")).mapToInt(Integer::parseInt).toArray();
                desk.due(Integer.parseInt(call.group(3)), call.group(1), with);
                missing.remove(call.group(1) + " " + with.length);
            } else if (line.equals(NEW_OBJECT)) {
                desk = new AskedDesk();
            } else if (line.contains("desk.")) {
                AskedDesk.isWrong("not a call with its answer behind it: " + line);
            }
        }
        if (!missing.isEmpty()) {
            AskedDesk.isWrong("does not show " + missing);
        }
    }

    public static void main(String[] args) throws IOException {
        List<String> lines = Files.readAllLines(Path.of("README.md"));
        checkListedCalls(lines);
        checkExample(lines);
        AskedDesk.end("the README");
    }
}
