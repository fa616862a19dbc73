import java.io.IOException;
import java.lang.reflect.Method;
import java.lang.reflect.Modifier;
import java.nio.file.Files;
import java.nio.file.Path;
import java.util.Arrays;
import java.util.HashMap;
import java.util.List;
import java.util.Map;
import java.util.regex.Matcher;
import java.util.regex.Pattern;

/** What README.md tells holds: each call of its example answers the number behind it, and no call is left out. */
public final class ReadmeTest {
    private static final String FIRST_LINE = "HeapProfiler heap = new HeapProfiler();";
    private static final Pattern CALL =
            Pattern.compile("(?:int (?<name>\\w+) = )?heap\\.(?<call>\\w+)\\((?<args>.*?)\\); +// (?<due>-?\\d+)\\b.*");

    private static final Checks checks = new Checks("ReadmeTest");

    private final HeapProfiler heap = new HeapProfiler();
    private final Map<String, Integer> named = new HashMap<>();

    public static void main(String[] args) throws IOException {
        checks.about("README.md");
        List<String> readme = Files.readAllLines(Path.of("README.md"));
        new ReadmeTest().makeCallsOf(example(readme));
        for (Method method : HeapProfiler.class.getDeclaredMethods()) {
            if (Modifier.isPublic(method.getModifiers())) {
                checks.holds("the table has one row of " + method.getName(), rowsOf(method, readme) == 1);
            }
        }
        checks.end();
    }

    private static List<String> example(List<String> readme) {
        int from = readme.indexOf(FIRST_LINE) + 1;
        checks.holds("there is an example", from > 0);
        return readme.subList(from, readme.size()).stream().takeWhile(line -> !line.equals("```")).toList();
    }

    private static long rowsOf(Method method, List<String> readme) {
        int parameters = method.getParameterCount();
        String inParentheses = parameters == 0 ? "" : "\\w+(, \\w+){" + (parameters - 1) + "}";
        String row = "\\| `" + method.getName() + "\\(" + inParentheses + "\\)` \\| .+ \\|";
        return readme.stream().filter(line -> line.matches(row)).count();
    }

    private void makeCallsOf(List<String> example) {
        for (String line : example) {
            Matcher parts = CALL.matcher(line);
            boolean isCall = parts.matches();
            checks.holds("a call with its answer: " + line, isCall);
            if (isCall) {
                makeCall(parts);
            }
        }
    }

    private void makeCall(Matcher parts) {
        Call call = new Call(parts.group("call"), numbers(parts.group("args")));
        int answer = call.on(heap);
        checks.due(call.toString(), answer, Integer.parseInt(parts.group("due")));
        if (parts.group("name") != null) {
            named.put(parts.group("name"), answer);
        }
    }

    private int[] numbers(String args) {
        return Arrays.stream(args.split(", "))
                .filter(arg -> !arg.isEmpty())
                .mapToInt(arg -> named.containsKey(arg) ? named.get(arg) : Integer.parseInt(arg))
                .toArray();
    }
}
