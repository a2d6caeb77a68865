import java.io.IOException;
import java.lang.reflect.Field;
import java.lang.reflect.Method;
import java.lang.reflect.Modifier;
import java.nio.file.Files;
import java.nio.file.Path;
import java.util.ArrayList;
import java.util.Arrays;
import java.util.List;
import java.util.Set;
import java.util.TreeSet;
import java.util.regex.Matcher;
import java.util.regex.Pattern;

/** Those rules of LANGUAGE.md that the file's lines and the compiled class show; run from the project's folder. */
public final class RulesTest {
    private static final Checks CHECKS = new Checks("RulesTest");
    private static final Path FILE = Path.of("src/main/java/PostRelief.java");
    private static final String FACE = "type(int) clear() depot() post(int,int) man(int,int) now(int) sends(int,int)"
        + " calls(int) hour() relieves(int,int) undo() inHours(int,int,int) round(int) rota(int) leave() two()"
        + " unseen(int,int) odds(int,int) creep(int,int) found(int,int,int) forget() fits(int,int) had(int,int)"
        + " fair() cow(int,int,int) rate(int,int) keep(int) back(int) count(int) trace()";
    private static final String[] FORBIDDEN = {
        "\\bthrow\\b", "\\btry\\b", "\\bcatch\\b", "\\bsynchronized\\b", "\\bassert\\b", "->", "::", "\\bprotected\\b",
        "\\bString\\.format\\b", "\\bRandom\\b", "\\bnanoTime\\b", "\\bcurrentTimeMillis\\b", "Exact\\(",
        "\\bpackage\\b", "\\bstatic \\{", "\\bequals\\(Object", "\\bhashCode\\b", "\\btoString\\b"};

    private RulesTest() {
    }

    public static void main(String[] args) throws IOException {
        String source = Files.readString(FILE);
        face();
        classesInside();
        words(source);
        methodLengths(source);
        CHECKS.end();
    }

    private static String told(Method m) {
        List<String> types = new ArrayList<>();
        for (Class<?> type : m.getParameterTypes()) {
            types.add(type.getName());
        }
        return m.getName() + "(" + String.join(",", types) + ")";
    }

    private static void face() {
        Set<String> open = new TreeSet<>();
        Set<String> hidden = new TreeSet<>();
        for (Method m : PostRelief.class.getDeclaredMethods()) {
            if (Modifier.isPublic(m.getModifiers())) {
                open.add(told(m));
                String answers = m.getName().equals("trace") ? "long" : "int";
                CHECKS.holds(m + " answers " + answers, m.getReturnType().getName().equals(answers));
            } else {
                hidden.add(m.getName());
                CHECKS.holds(m + " is private", Modifier.isPrivate(m.getModifiers()));
            }
        }
        CHECKS.holds("the face is the document's: " + open, open.equals(new TreeSet<>(Arrays.asList(FACE.split(" ")))));
        for (String call : open) {
            CHECKS.holds("no private " + call, !hidden.contains(call.substring(0, call.indexOf('('))));
        }
        Set<String> constants = new TreeSet<>();
        for (Field f : PostRelief.class.getDeclaredFields()) {
            if (Modifier.isPublic(f.getModifiers())) {
                constants.add(f.getName());
            } else {
                CHECKS.holds(f + " is private", Modifier.isPrivate(f.getModifiers()));
            }
        }
        CHECKS.holds("constants " + constants, constants.equals(Set.of("BAD", "STATE", "FULL", "NONE", "NO")));
        CHECKS.holds("final", Modifier.isFinal(PostRelief.class.getModifiers()));
        CHECKS.due("constructors", 1, PostRelief.class.getDeclaredConstructors().length);
    }

    private static void classesInside() {
        Class<?>[] inside = PostRelief.class.getDeclaredClasses();
        CHECKS.holds("twelve classes at most", inside.length + 1 <= 12);
        List<Class<?>> all = new ArrayList<>(Arrays.asList(inside));
        for (Class<?> c : inside) {
            CHECKS.holds(c + " is static", Modifier.isStatic(c.getModifiers()));
        }
        all.add(PostRelief.class);
        for (Class<?> c : all) {
            int fields = 0;
            for (Field f : c.getDeclaredFields()) {
                boolean isStatic = Modifier.isStatic(f.getModifiers());
                fields += isStatic ? 0 : 1;
                CHECKS.holds(f + ": static fields are final", !isStatic || Modifier.isFinal(f.getModifiers()));
            }
            CHECKS.holds(c + " has twenty fields at most", fields <= 20);
            for (Method m : c.getDeclaredMethods()) {
                CHECKS.holds(m + " has seven parameters at most", m.getParameterCount() <= 7);
            }
        }
    }

    private static void words(String source) {
        String code = source.replaceAll("(?s)/\\*.*?\\*/", "").replaceAll("//[^\n]*", "");
        for (String word : FORBIDDEN) {
            CHECKS.holds("nothing like " + word, !Pattern.compile(word).matcher(code).find());
        }
        Matcher imports = Pattern.compile("import ([^;]+);").matcher(code);
        while (imports.find()) {
            CHECKS.holds("import " + imports.group(1), imports.group(1).equals("java.util.Arrays"));
        }
        CHECKS.holds("signs 1 to 127", source.chars().allMatch(sign -> sign >= 1 && sign <= 127));
    }

    private static void methodLengths(String source) {
        int begun = 0;
        String[] lines = source.split("\n");
        for (int i = 0; i < lines.length; i++) {
            if (lines[i].matches("    (    )?[a-z].*\\) \\{")) {
                begun = i;
            }
            if (lines[i].matches("    (    )?\\}")) {
                CHECKS.holds("the method that ends in line " + (i + 1) + " is short", i - begun <= 60 || begun == 0);
                begun = 0;
            }
        }
    }
}
