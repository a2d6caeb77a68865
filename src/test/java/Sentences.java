import java.io.IOException;
import java.nio.file.Files;
import java.nio.file.Path;
import java.util.BitSet;
import java.util.List;
import java.util.Map;
import java.util.TreeMap;
import java.util.regex.Matcher;
import java.util.regex.Pattern;

/**
 * Which words of the document the tests stand for. Every test names a promise and words that the document has;
 * at the end, words that stand under "Terms" or under a promise and that no test names are told, too.
 */
final class Sentences {
    private static final Path DOCUMENT = Path.of("../shared/DOC.md");
    private static final int PROMISES = 31;
    /** The parts of the document that are no promise's own. */
    private static final int USE = -1;
    private static final int TERMS = 0;
    private static final Pattern WORD = Pattern.compile("[A-Za-z0-9]+");

    private final Checks checks = new Checks("SentencesTest");
    private final Map<Integer, String> parts = new TreeMap<>();
    private final Map<Integer, BitSet> named = new TreeMap<>();
    private final BitSet promises = new BitSet();
    private String where = "";
    private int tests;

    /** Where the document is not at hand, what it promises is tested all the same, but no words are looked up. */
    Sentences() throws IOException {
        if (Files.exists(DOCUMENT)) {
            split(Files.readString(DOCUMENT).replace("```text", " ").replace("```", " ").replaceAll("\\s+", " "));
        } else {
            System.out.println("SentencesTest: there is no " + DOCUMENT + ": its words are not looked up");
        }
    }

    private void split(String all) {
        String told = all.replaceAll("======== \\d", "");
        parts.put(USE, between(told, "posts by kinds; images.", "## The public face"));
        parts.put(TERMS, between(told, "## Terms", "Ahead of the calls"));
        for (int n = 1; n <= PROMISES; n++) {
            String end = n < PROMISES ? "## Promise " + (n + 1) + ":" : "## Not promised";
            // the call's name and face end with a backtick and a colon; what follows is promised
            parts.put(n, between(told, "## Promise " + n + ":", end).replaceFirst("^.*?`: ", ""));
        }
        parts.keySet().forEach(part -> named.put(part, new BitSet()));
    }

    private static String between(String all, String begin, String end) {
        int from = all.indexOf(begin);
        int to = all.indexOf(end);
        if (from < 0 || to < from) {
            throw new IllegalStateException("the document has no part from " + begin + " to " + end);
        }
        return all.substring(from + begin.length(), to);
    }

    /** A test begins: of a promise, and of words that stand under its heading or under "Terms". */
    void sentence(int promise, String words) {
        tests++;
        promises.set(promise);
        where = "Promise " + promise + ", \"" + words + "\": ";
        if (!parts.isEmpty()) {
            lookUp(promise, words);
        }
    }

    private void lookUp(int promise, String words) {
        for (int part : new int[] {promise, TERMS, USE}) {
            int at = parts.get(part).indexOf(words);
            if (at >= 0) {
                named.get(part).set(at, at + words.length());
                checks.holds(where + "these words stand once there", parts.get(part).lastIndexOf(words) == at);
                return;
            }
        }
        checks.holds(where + "the document has these words", false);
    }

    void due(String call, long want, long got) {
        checks.due(where + call, want, got);
    }

    void same(String what, List<Long> wants, List<Long> got) {
        checks.holds(where + what + ": " + wants + " and " + got, wants.equals(got));
    }

    void end() {
        where = "";
        for (int n = 1; n <= PROMISES; n++) {
            checks.holds("Promise " + n + " has a test", promises.get(n));
        }
        parts.forEach(this::everyWordIsNamed);
        System.out.println(tests + " tests of sentences");
        checks.end();
    }

    private void everyWordIsNamed(int part, String words) {
        Matcher word = WORD.matcher(words);
        while (word.find()) {
            int at = word.start();
            String around = words.substring(Math.max(0, at - 40), Math.min(words.length(), at + 40));
            checks.holds("part " + part + ": a test names \"" + word.group() + "\" in \"" + around + "\"",
                named.get(part).get(at));
        }
    }
}
