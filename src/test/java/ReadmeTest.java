import java.io.IOException;
import java.lang.reflect.Method;
import java.lang.reflect.Modifier;
import java.nio.file.Files;
import java.nio.file.Path;
import java.util.Arrays;
import java.util.Map;
import java.util.regex.Matcher;
import java.util.regex.Pattern;

/** What README.md says of the calls is so; run from the project's folder. */
public final class ReadmeTest {
    private static final Checks CHECKS = new Checks("ReadmeTest");
    private static final Path README = Path.of("README.md");
    private static final Pattern TELL = Pattern.compile("tell\\(x, \"([^\"]*)\"\\);");
    private static final Pattern CALL = Pattern.compile("x\\.(\\w+)\\(([-\\d, ]*)\\); +// (-?\\w+)(:.*)?");
    private static final Map<String, Integer> NAMES = Map.of("BAD", PostRelief.BAD, "STATE", PostRelief.STATE,
        "FULL", PostRelief.FULL, "NONE", PostRelief.NONE, "NO", PostRelief.NO);

    private ReadmeTest() {
    }

    public static void main(String[] args) throws IOException {
        String readme = Files.readString(README);
        example(readme);
        everyCallHasARow(readme);
        constants(readme);
        CHECKS.end();
    }

    private static void example(String readme) {
        String begin = "PostRelief x = new PostRelief();\n";
        int from = readme.indexOf(begin) + begin.length();
        CHECKS.holds("there is an example", from >= begin.length());
        PostRelief x = new PostRelief();
        for (String line : readme.substring(from, readme.indexOf("```", from)).split("\n")) {
            answers(x, line);
        }
    }

    private static void answers(PostRelief x, String line) {
        Matcher tell = TELL.matcher(line);
        Matcher call = CALL.matcher(line);
        if (tell.matches()) {
            Checks.type(x, tell.group(1));
            return;
        }
        CHECKS.holds("a line of the example is a call and its answer: " + line, call.matches());
        if (call.matches()) {
            String due = call.group(3);
            long want = NAMES.containsKey(due) ? NAMES.get(due) : Long.parseLong(due);
            CHECKS.due(line, want, new Call(call.group(1), numbers(call.group(2))).on(x));
        }
    }

    private static int[] numbers(String told) {
        return told.isEmpty() ? new int[0] : Arrays.stream(told.split(", *")).mapToInt(Integer::parseInt).toArray();
    }

    /** The row tells the call with as many names as it takes numbers. */
    private static void everyCallHasARow(String readme) {
        for (Method m : PostRelief.class.getDeclaredMethods()) {
            if (Modifier.isPublic(m.getModifiers())) {
                Matcher row = Pattern.compile("\\| `" + m.getName() + "\\(([^)]*)\\)` \\|").matcher(readme);
                boolean has = row.find();
                CHECKS.holds(m.getName() + " has a row", has);
                int names = !has || row.group(1).isEmpty() ? 0 : row.group(1).split(",").length;
                CHECKS.due(m.getName() + " takes so many numbers", m.getParameterCount(), names);
                CHECKS.holds(m.getName() + " has one row", !has || !row.find());
            }
        }
    }

    private static void constants(String readme) {
        for (String name : NAMES.keySet()) {
            String number = String.valueOf(NAMES.get(name));
            CHECKS.holds(name + " is told to be " + number,
                readme.contains("`" + name + "` (" + number + ")") || readme.contains("`" + name + "`, " + number));
        }
    }
}
