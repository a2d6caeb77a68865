import java.io.IOException;
import java.lang.reflect.Field;
import java.lang.reflect.Method;
import java.lang.reflect.Modifier;
import java.nio.file.Files;
import java.nio.file.Path;
import java.util.ArrayList;
import java.util.Arrays;
import java.util.List;
import java.util.regex.Matcher;
import java.util.regex.Pattern;
import java.util.stream.Collectors;

/** The class has the face that the document tells, call by call and constant by constant, and nothing besides. */
public final class FaceTest {
    private static final Checks CHECKS = new Checks("FaceTest");
    private static final Path DOCUMENT = Path.of("../shared/DOC.md");
    private static final Path FILE = Path.of("src/main/java/PostRelief.java");
    private static final Pattern CALL = Pattern.compile("public (int|long) (\\w+)\\(([^)]*)\\)");

    private FaceTest() {
    }

    public static void main(String[] args) throws IllegalAccessException, IOException {
        if (!Files.exists(DOCUMENT)) {
            System.out.println("FaceTest: there is no " + DOCUMENT + ": RulesTest alone asks for the face");
            return;
        }
        String document = Files.readString(DOCUMENT);
        String face = document.substring(document.indexOf("```java"), document.indexOf("## Terms"));
        calls(face);
        constants(face);
        promises(document, face);
        headings(document);
        CHECKS.end();
    }

    private static List<String> callsIn(String text) {
        List<String> calls = new ArrayList<>();
        Matcher call = CALL.matcher(text);
        while (call.find()) {
            calls.add(call.group(1) + " " + call.group(2) + "(" + call.group(3) + ")");
        }
        return calls;
    }

    private static void same(String what, List<String> wants, List<String> got) {
        CHECKS.holds(what + ": " + wants + " and " + got, wants.equals(got));
    }

    /** In the file the calls stand in the document's order, with the document's names for their numbers. */
    private static void calls(String face) throws IOException {
        same("the calls in the file", callsIn(face), callsIn(Files.readString(FILE)));
        List<String> compiled = new ArrayList<>();
        for (Method m : PostRelief.class.getDeclaredMethods()) {
            if (Modifier.isPublic(m.getModifiers())) {
                compiled.add(m.getReturnType() + " " + m.getName() + Arrays.toString(m.getParameterTypes()));
            }
        }
        List<String> told = new ArrayList<>();
        for (String call : callsIn(face)) {
            // "int post(int p, int what)" is "int post[int, int]"
            told.add(call.replaceAll("(int|long) \\w+(?=[,)])", "$1").replace('(', '[').replace(')', ']'));
        }
        compiled.sort(null);
        told.sort(null);
        same("the calls of the compiled class", told, compiled);
    }

    private static void constants(String face) throws IllegalAccessException {
        List<String> told = new ArrayList<>();
        Matcher constant = Pattern.compile("([A-Z]+) = (-?\\d+)").matcher(face);
        while (constant.find()) {
            told.add(constant.group());
        }
        List<String> compiled = new ArrayList<>();
        for (Field f : PostRelief.class.getFields()) {
            compiled.add(f.getName() + " = " + f.getInt(null));
        }
        told.sort(null);
        compiled.sort(null);
        same("the constants", told, compiled);
    }

    /** Each call of the face is told by a promise, in the same order: the tests name promises by these numbers. */
    private static void promises(String document, String face) {
        List<String> told = new ArrayList<>();
        Matcher heading = Pattern.compile("## Promise \\d+: \\w+\\s+`([^`]+)`:").matcher(document);
        while (heading.find()) {
            told.add(heading.group(1));
        }
        same("the promises", callsIn(face), told);
    }

    /** "Ahead of the calls .. the interface says: ----": so does the file. */
    private static void headings(String document) throws IOException {
        Matcher told = Pattern.compile("Ahead of the calls (.*?) the interface says: (---- .*?)\\.").matcher(document);
        String[] sections = Files.readString(FILE).split("(?=// ---- )");
        int at = 1;
        while (told.find() && at < sections.length) {
            String names = callsIn(sections[at]).stream().map(call -> "`" + call.replaceAll(".* (\\w+)\\(.*", "$1") + "`")
                .collect(Collectors.joining(", "));
            CHECKS.holds("the calls under " + told.group(2) + " are " + names, told.group(1).equals(names));
            CHECKS.holds("the file says " + told.group(2), sections[at].startsWith("// " + told.group(2) + "\n"));
            at++;
        }
        CHECKS.due("headings", 7, at);
    }
}
