/** Counts the answers that are not as due, and tells each of them. */
final class Checks {
    private final String name;
    private int asked;
    private int wrong;

    Checks(String name) {
        this.name = name;
    }

    void due(String what, long want, long got) {
        asked++;
        if (want != got) {
            wrong++;
            System.out.println(name + ": " + what + " answered " + got + ", due is " + want);
        }
    }

    void holds(String what, boolean is) {
        due(what, 1, is ? 1 : 0);
    }

    int wrong() {
        return wrong;
    }

    /** Ends the machine with exit code 1 if an answer was wrong. */
    void end() {
        System.out.println(name + ": " + asked + " answers, " + wrong + " not as due");
        if (wrong != 0 || asked == 0) {
            System.exit(1);
        }
    }

    static PostRelief typed(String text) {
        PostRelief x = new PostRelief();
        type(x, text);
        return x;
    }

    static void type(PostRelief x, String text) {
        for (int i = 0; i < text.length(); i++) {
            x.type(text.charAt(i));
        }
    }

    /** A new object to which a text without a fault was told. */
    static PostRelief told(String text) {
        PostRelief x = typed(text);
        if (x.depot() < 0) {
            throw new IllegalStateException("a test tells a text with a fault: " + text);
        }
        return x;
    }

    static void hours(PostRelief x, int n) {
        for (int i = 0; i < n; i++) {
            x.hour();
        }
    }
}
